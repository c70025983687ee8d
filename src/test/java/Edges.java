import java.lang.reflect.InvocationTargetException;
import java.lang.reflect.Method;
import java.util.ArrayList;
import java.util.List;
import java.util.TreeMap;

/** Boundary cases: each is a static method pN_name of a test, of promise N, on objects of its own. */
final class Edges {
    interface Call {
        int on(PaintedTown town);
    }

    static final int BAD = Check.BAD, NO = Check.NO, FULL = Check.FULL, NONE = Check.NONE;
    /** Numbers that are told nowhere. */
    static final int[] FAR = {-100, -2, 100000, Integer.MAX_VALUE, Integer.MIN_VALUE, 1 << 16, 1 << 30};
    private static final Check CHECK = new Check();
    private static String current = "";

    private Edges() {
    }

    /** Runs the cases of that test, of these promises, each of which must have some. */
    static void run(Class<?> test, int firstPromise, int lastPromise) {
        TreeMap<String, Method> cases = new TreeMap<>();
        for (Method method : test.getDeclaredMethods()) {
            if (method.getName().matches("p[0-9]+_.*")) cases.put(method.getName(), method);
        }
        for (int promise = firstPromise; promise <= lastPromise; promise++) {
            String own = "p" + promise + "_";
            boolean some = false;
            for (String name : cases.keySet()) some |= name.startsWith(own);
            CHECK.due("cases of promise " + promise, some ? 1 : 0, 1);
        }
        for (Method method : cases.values()) runOne(method);
        CHECK.end();
    }

    private static void runOne(Method method) {
        current = method.getName();
        try {
            method.invoke(null);
        } catch (InvocationTargetException thrown) {
            CHECK.due(current + " threw " + thrown.getCause(), 1, 0);
        } catch (IllegalAccessException hidden) {
            CHECK.due(current + " is hidden", 1, 0);
        }
    }

    static void due(String call, long got, long want) {
        CHECK.due(current + ": " + call, got, want);
    }

    static void due(String call, Object got, Object want) {
        if (!got.equals(want)) System.out.println("is  " + got + "\ndue " + want);
        CHECK.due(current + ": " + call, got.equals(want) ? 1 : 0, 1);
    }

    static PaintedTown laid(String text) {
        return CHECK.laid(text);
    }

    static PaintedTown written(String text) {
        PaintedTown town = new PaintedTown();
        Check.write(town, text);
        return town;
    }

    private static final String TOWN = "v2,2;p0,5;p1,4;i2,5;i3,4;e1;w2;l9;g1,2,3,4;";

    /** A town of 4 CELLS in the midst of it all: 3 can be UNDONE, 2 are FINED, 1 is KEPT, 3 letters stand. */
    static PaintedTown some() {
        PaintedTown town = laid(TOWN);
        town.pass(3);
        town.keep();
        town.put(0, 1);
        town.canvas(3);
        town.fined(1, town.by(1));
        town.fined(3, 0);
        town.wipe();
        Check.write(town, "l5;");
        return town;
    }

    /** The same with all that has a bound at it: 8, 6, 2 of them, 200 letters. */
    static PaintedTown full() {
        PaintedTown town = laid(TOWN);
        town.pass(3);
        town.keep();
        town.put(0, 1);
        town.canvas(3);
        town.keep();
        for (int i = 0; i < 4; i++) {
            town.put(1, i + 2);
            town.pass(1);
        }
        for (int d = 0; d < 4; d++) town.fined(d, town.by(d));
        town.fined(0, town.by(0));
        town.fined(2, town.by(2));
        town.wipe();
        for (int i = 0; i < 65; i++) Check.write(town, "e1;");
        Check.write(town, "p0,1;");
        return town;
    }

    /** All that an object of 4 CELLS holds, and held: what was can be told by going back to it alone. */
    static List<Integer> trace(PaintedTown town) {
        List<Integer> row = new ArrayList<>();
        for (int what = 0; what <= 10; what++) row.add(town.count(what));
        for (int x = 0; x < 4; x++) row.add(town.cell(x, 0));
        for (int x = 0; x < 4; x++) row.add(town.copy(x));
        row.add(town.chance(0));
        row.add(town.chance(1));
        row.add(town.moved(0));
        row.add(town.frames(0));
        addState(row, town);
        for (int left = town.undo(); left >= 0; left = town.undo()) {
            row.add(left);
            addState(row, town);
        }
        for (int left = town.back(); left >= 0; left = town.back()) {
            row.add(left);
            addState(row, town);
        }
        row.add(town.fault());
        row.add(town.lay());
        for (int what = 0; what <= 10; what++) row.add(town.count(what));
        row.add(town.cell(0, 0));
        return row;
    }

    private static void addState(List<Integer> row, PaintedTown town) {
        for (int what = 3; what <= 5; what++) row.add(town.count(what));
        for (int x = 0; x < 4; x++) {
            row.add(town.cell(x, 1));
            row.add(town.cell(x, 4));
            row.add(town.cell(x, 5));
        }
    }

    /** Of some() and full() alike: that answer, and all is as it was. */
    static void refused(String name, int want, Call call) {
        refusedBy(name + " of some", some(), some(), want, call);
        refusedBy(name + " of full", full(), full(), want, call);
    }

    /** Two objects that are alike; the call is on one. */
    static void refusedBy(String name, PaintedTown one, PaintedTown other, int want, Call call) {
        due(name, call.on(one), want);
        due(name + " changes nothing", trace(one), trace(other));
    }

    /** A question that changes nothing, and answers the same again. */
    static void asked(String name, Call call) {
        PaintedTown some = some(), full = full();
        due(name + " of some again", call.on(some), call.on(some));
        due(name + " of some changes nothing", trace(some), trace(some()));
        due(name + " of full again", call.on(full), call.on(full));
        due(name + " of full changes nothing", trace(full), trace(full()));
    }
}
