import java.io.IOException;
import java.lang.reflect.InvocationTargetException;
import java.lang.reflect.Method;
import java.lang.reflect.Modifier;
import java.nio.file.Files;
import java.nio.file.Path;
import java.util.ArrayList;
import java.util.List;
import java.util.Map;
import java.util.TreeMap;
import java.util.TreeSet;
import java.util.regex.Matcher;
import java.util.regex.Pattern;

/** README.md, read where .ci/run stands: its run of calls is made, its tables hold against the face and the document. */
public final class ReadmeTest {
    private static final Map<String, Integer> NAMED = Map.of(
        "BAD", PaintedTown.BAD, "NO", PaintedTown.NO, "FULL", PaintedTown.FULL, "NONE", PaintedTown.NONE);
    private static final String NEW = "PaintedTown town = new PaintedTown();";
    private static final String ANSWER = " *// (-?[0-9]+|BAD|NO|FULL|NONE)(?::? .*)?";
    private static final Pattern CALL = Pattern.compile("town\\.([a-z]+)\\(([-0-9, ]*)\\);" + ANSWER);
    private static final Pattern TEXT = Pattern.compile(
        "for \\(char letter : \"([^\"]*)\"\\.toCharArray\\(\\)\\) town\\.write\\(letter\\);" + ANSWER);
    private static final Pattern ROW = Pattern.compile("\\| `([a-z]+)\\(([a-z, ]*)\\)` \\| (.*) \\|([A-Z, ]*)\\|");
    private static final Pattern PROMISED = Pattern.compile("`int ([a-z]+)\\(([a-z0-9, ]*)\\)`: (.*)");
    private static final Pattern REFUSAL = Pattern.compile("\\b(BAD|NO|FULL|NONE)\\b");
    private static final Check CHECK = new Check();

    public static void main(String[] args) throws IOException {
        List<String> readme = Files.readAllLines(Path.of("README.md"));
        run(readme);
        tables(readme, Files.readAllLines(Path.of("../shared/DOC.md")));
        CHECK.end();
    }

    private static void run(List<String> readme) {
        PaintedTown town = null;
        int calls = 0;
        for (String line : shown(readme)) {
            Matcher call = CALL.matcher(line), text = TEXT.matcher(line);
            if (line.equals(NEW)) {
                town = new PaintedTown();
            } else if (town != null && text.matches()) {
                int last = 0;
                for (char letter : text.group(1).toCharArray()) last = town.write(letter);
                CHECK.due("README: " + line, last, answer(text.group(2)));
                calls++;
            } else if (town != null && call.matches()) {
                CHECK.due("README: " + line, made(town, call.group(1), call.group(2)), answer(call.group(3)));
                calls++;
            } else {
                CHECK.due("README: no call with its answer: " + line, 0, 1);
            }
        }
        CHECK.due("README shows a run", calls >= 10 ? 1 : 0, 1);
    }

    /** The lines between ```java and ```. */
    private static List<String> shown(List<String> readme) {
        List<String> lines = new ArrayList<>();
        boolean within = false;
        for (String line : readme) {
            if (line.startsWith("```")) {
                within = line.equals("```java");
            } else if (within) {
                lines.add(line);
            }
        }
        return lines;
    }

    private static int answer(String told) {
        Integer named = NAMED.get(told);
        return named == null ? Integer.parseInt(told) : named;
    }

    private static long made(PaintedTown town, String name, String told) {
        String[] parts = told.isBlank() ? new String[0] : told.split(",");
        Object[] numbers = new Object[parts.length];
        Class<?>[] types = new Class<?>[parts.length];
        for (int i = 0; i < parts.length; i++) {
            numbers[i] = Integer.parseInt(parts[i].trim());
            types[i] = int.class;
        }
        try {
            Method method = PaintedTown.class.getMethod(name, types);
            return (int) method.invoke(town, numbers);
        } catch (NoSuchMethodException | IllegalAccessException | InvocationTargetException none) {
            CHECK.due("README: " + name + "(" + told + "): " + none, 0, 1);
            return Long.MIN_VALUE;
        }
    }

    /** The tables have a row for each call of the face, with its numbers and what else it answers. */
    private static void tables(List<String> readme, List<String> document) {
        Map<String, String> told = new TreeMap<>(), due = new TreeMap<>();
        for (String line : readme) {
            Matcher row = ROW.matcher(line);
            if (!row.matches()) continue;
            CHECK.due("README has two rows of " + row.group(1), told.containsKey(row.group(1)) ? 1 : 0, 0);
            told.put(row.group(1), row.group(2) + " else " + refusals(row.group(4)));
        }
        for (String line : document) {
            Matcher promised = PROMISED.matcher(line);
            if (!promised.matches()) continue;
            due.put(promised.group(1), promised.group(2).replace("int ", "") + " else " + refusals(promised.group(3)));
        }
        TreeSet<String> face = new TreeSet<>();
        for (Method method : PaintedTown.class.getDeclaredMethods()) {
            if (Modifier.isPublic(method.getModifiers())) face.add(method.getName());
        }
        CHECK.due("calls of the face that the document promises: " + due.keySet(), face.equals(due.keySet()) ? 1 : 0, 1);
        for (String name : face) {
            boolean same = told.containsKey(name) && told.get(name).equals(due.get(name));
            CHECK.due("README: " + name + " " + told.get(name) + ", due is " + due.get(name), same ? 1 : 0, 1);
        }
        CHECK.due("rows of calls in README", told.size(), face.size());
    }

    private static String refusals(String text) {
        TreeSet<String> found = new TreeSet<>();
        Matcher refusal = REFUSAL.matcher(text);
        while (refusal.find()) found.add(refusal.group(1));
        return found.toString();
    }
}
