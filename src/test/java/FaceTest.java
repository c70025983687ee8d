import java.lang.reflect.Constructor;
import java.lang.reflect.Field;
import java.lang.reflect.Method;
import java.lang.reflect.Modifier;
import java.util.Set;
import java.util.TreeSet;

/** The face of the document and nothing beside it. */
public final class FaceTest {
    private static final String[] CALLS = {
        "write(int)", "wipe()", "fault()", "lay()", "cell(int,int)", "fine(int)",
        "mend(int)", "put(int,int)", "lop()", "canvas(int)", "wind(int)", "eye(int)", "pass(int)", "undo()",
        "behind(int,int)", "until()", "least(int)", "canvases(int)", "never(int)",
        "fined(int,int)", "forget()", "moved(int)", "frames(int)", "copy(int)",
        "by(int)", "chance(int)", "year(int,int,int)", "keep()", "back()", "count(int)"
    };

    public static void main(String[] args) {
        Check check = new Check();
        Set<String> due = new TreeSet<>(Set.of(CALLS));
        Set<String> names = new TreeSet<>();
        for (String call : CALLS) names.add(call.substring(0, call.indexOf('(')));
        Set<String> found = new TreeSet<>();
        for (Method method : PaintedTown.class.getDeclaredMethods()) {
            if (Modifier.isPrivate(method.getModifiers())) {
                check.due(method + " bears the name of a public one", names.contains(method.getName()) ? 1 : 0, 0);
                continue;
            }
            StringBuilder call = new StringBuilder(method.getName()).append('(');
            for (Class<?> type : method.getParameterTypes()) {
                if (call.charAt(call.length() - 1) != '(') call.append(',');
                call.append(type.getName());
            }
            found.add(call.append(')').toString());
            check.due(method + " answers an int", method.getReturnType() == int.class ? 1 : 0, 1);
            check.due(method + " is public", method.getModifiers(), Modifier.PUBLIC);
        }
        check.due("the calls " + found, found.equals(due) ? 1 : 0, 1);
        fieldsOf(check);
        constructorsOf(check);
        check.due("public and final", PaintedTown.class.getModifiers(), Modifier.PUBLIC | Modifier.FINAL);
        for (Class<?> inner : PaintedTown.class.getDeclaredClasses()) {
            check.due(inner + " is static", inner.getModifiers() & Modifier.STATIC, Modifier.STATIC);
            check.due(inner + " is not public", inner.getModifiers() & Modifier.PUBLIC, 0);
            for (Method method : inner.getDeclaredMethods()) {
                check.due(method + " bears the name of a public one", names.contains(method.getName()) ? 1 : 0, 0);
            }
        }
        check.end();
    }

    private static void fieldsOf(Check check) {
        Set<String> found = new TreeSet<>();
        for (Field field : PaintedTown.class.getDeclaredFields()) {
            if (Modifier.isStatic(field.getModifiers())) {
                check.due(field + " is final", field.getModifiers() & Modifier.FINAL, Modifier.FINAL);
            }
            if (!Modifier.isPrivate(field.getModifiers())) found.add(field.getName());
        }
        check.due("the constants " + found, found.equals(Set.of("BAD", "NO", "FULL", "NONE")) ? 1 : 0, 1);
        check.due("BAD", PaintedTown.BAD, -1);
        check.due("NO", PaintedTown.NO, -2);
        check.due("FULL", PaintedTown.FULL, -3);
        check.due("NONE", PaintedTown.NONE, -4);
    }

    private static void constructorsOf(Check check) {
        Constructor<?>[] all = PaintedTown.class.getDeclaredConstructors();
        check.due("constructors", all.length, 1);
        check.due("parameters of the constructor", all[0].getParameterCount(), 0);
        check.due("the constructor is public", all[0].getModifiers(), Modifier.PUBLIC);
    }
}
