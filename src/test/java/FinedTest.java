/** Promises 21 to 25: FINED, MOVED, FRAMES, COPY. */
public final class FinedTest {
    private static final int BAD = Check.BAD, FULL = Check.FULL, NONE = Check.NONE;
    private static final int HUGE = Integer.MAX_VALUE, TINY = Integer.MIN_VALUE;
    private static final Check CHECK = new Check();

    private static void due(String call, long got, long want) {
        CHECK.due(call, got, want);
    }

    public static void main(String[] args) {
        promise21And22();
        promise23();
        promise23Trees();
        promise24();
        promise25();
        CHECK.end();
    }

    private static void promise21And22() {
        PaintedTown town = CHECK.laid("v2,2;");
        due("forget of nothing", town.forget(), 0);
        int[] winds = {-1, 4, HUGE, TINY};
        for (int d : winds) {
            due("fined(" + d + ", 0)", town.fined(d, 0), BAD);
            due("fined(" + d + ", 1000)", town.fined(d, 1000), BAD);
        }
        int[] sums = {-1, 1000, HUGE, TINY};
        for (int f : sums) due("fined(0, " + f + ")", town.fined(0, f), BAD);
        due("count(7)", town.count(7), 0);
        int[][] told = {{0, 0}, {3, 999}, {1, 5}, {1, 5}, {2, 7}, {0, 0}};
        for (int i = 0; i < told.length; i++) due("fined " + i, town.fined(told[i][0], told[i][1]), i + 1);
        due("count(7)", town.count(7), 6);
        due("a seventh", town.fined(0, 0), FULL);
        due("BAD before FULL", town.fined(4, 0), BAD);
        due("BAD before FULL", town.fined(0, 1000), BAD);
        due("count(7)", town.count(7), 6);
        due("nothing to be UNDONE", town.count(8), 0);
        due("forget", town.forget(), 6);
        due("forget again", town.forget(), 0);
        due("fined behind forget", town.fined(1, 1), 1);
        due("moved by it", town.frames(0), 0);
        town.forget();
        due("nothing FINED", town.frames(0), 4);
    }

    private static void promise23() {
        // a WALL that SHOULD be in CELL 0 IS in CELL 3, before the EYE: 20 and 12
        PaintedTown town = CHECK.laid("v2,2;p0,1;i0,0;i3,1;e3;");
        int[] whats = {-1, 2, HUGE, TINY};
        for (int what : whats) due("moved(" + what + ")", town.moved(what), BAD);
        due("as it is", town.fine(0), 32);
        due("nothing FINED: 0-3, 1-3, 2-3", town.moved(0), 3);
        due("nothing FINED: the first", town.moved(1), 3);
        String before = Check.look(town);
        town.fined(0, 0);
        due("moved to be right", town.moved(0), 1);
        due("moved to be right", town.moved(1), 3);
        for (int what : whats) due("moved(" + what + ")", town.moved(what), BAD);
        town.forget();
        CHECK.same("moved", town, before);
        town.fined(0, 28);
        due("moved beside", town.moved(0), 2);
        due("moved beside", town.moved(1), 103);
        town.forget();
        town.fined(0, 32);
        due("as it is, but moved", town.moved(0), 0);
        due("as it is, but moved", town.moved(1), NONE);
        town.forget();
        due("two figures", CHECK.laid("v6,6;i35,1;i34,1;i33,1;").moved(0), 99);
        due("the first of them", CHECK.laid("v6,6;i35,1;i34,1;i33,1;").moved(1), 33);
        town = CHECK.laid("v6,6;p34,1;i34,0;i35,1;l0;");
        town.fined(0, 0);
        due("the last two", town.moved(1), 3435);
        due("all alike", CHECK.laid("v6,6;").moved(0), 0);
        due("all alike", CHECK.laid("v6,6;").moved(1), NONE);
        // SMOKE told by two WINDS
        town = CHECK.laid("v2,3;p1,4;i1,0;i5,4;e1;");
        town.fined(0, 0);
        due("SMOKE to CELL 1", town.moved(1), 105);
        town.fined(2, 18);
        due("SMOKE blown on", town.moved(0), 1);
        town.fined(2, 17);
        due("two FINES with one WIND", town.moved(0), 0);
    }

    private static void promise23Trees() {
        PaintedTown town = CHECK.laid("v3,2;p4,5;p3,5;i3,0;i4,0;i5,5;e2;l0;");
        town.pass(3);
        due("none in CELL 4, one in CELL 5, seen in CELL 3", town.fine(0), 12 + 9);
        String before = Check.look(town);
        // from CELL 5 to CELL 4: seen above it, in CELL 2, and no more in CELL 3
        town.fined(0, 15 + 12);
        due("old where it goes", town.moved(0), 1);
        due("old where it goes", town.moved(1), 405);
        town.forget();
        CHECK.same("moved of TREES", town, before);
        town.put(4, 5);
        town.put(3, 5);
        // three TREES, one of them old: alike
        int unlike = 3 * 3;
        due("TREES are alike", town.moved(0), unlike);
        town = CHECK.laid("v2,2;i0,1;e0;");
        town.canvas(1);
        town.fined(0, 0);
        due("CANVAS stays where it hangs", town.moved(1), 1);
    }

    private static void promise24() {
        PaintedTown town = CHECK.laid("v6,6;i14,1;e14;");
        int[] whats = {-1, 2, HUGE, TINY};
        for (int what : whats) due("frames(" + what + ")", town.frames(what), BAD);
        due("nothing FINED", town.frames(0), 36);
        due("nothing FINED", town.frames(1), 0);
        String before = Check.look(town);
        int[] counts = {0, 1, 4, 8, 10};
        int[] firsts = {NONE, 14, 8, 2, 1};
        for (int i = 1; i <= 4; i++) {
            town.fined(0, 24 - 4 * i);
            due("frames " + i, town.frames(0), counts[i]);
            due("first of frames " + i, town.frames(1), firsts[i]);
            town.forget();
        }
        town.fined(0, 4);
        due("far", town.frames(0), 36 - 1 - 4 - 8 - 10);
        due("far", town.frames(1), 0);
        town.forget();
        CHECK.same("frames", town, before);
        town.fined(0, 5);
        due("no such", town.frames(0), 0);
        due("no such", town.frames(1), NONE);
        town = CHECK.laid("v2,2;i0,4;e0;");
        town.fined(2, 8);
        due("SMOKE blown on", town.frames(0), 2);
        due("SMOKE blown on", town.frames(1), 0);
        town.fined(0, 6);
        due("and not", town.frames(0), 1);
        due("and not", town.frames(1), 3);
        town.fined(0, 9);
        due("and neither", town.frames(1), NONE);
    }

    private static void promise25() {
        PaintedTown town = CHECK.laid("v2,2;p1,7;i1,2;e1;i3,4;p3,1;i3,4;");
        int[] wrong = {-1, 4, 36, HUGE, TINY};
        for (int x : wrong) due("copy(" + x + ")", town.copy(x), BAD);
        due("nothing FINED", town.copy(1), 255);
        String before = Check.look(town);
        // 16 for the WALL in CELL 3; a PERSON in CELL 1
        town.fined(0, 16 + 15);
        due("not a PERSON, not a WALL", town.copy(1), 255 - 4 - 2);
        town.forget();
        town.fined(0, 16 + 20);
        due("a WALL", town.copy(1), 2);
        town.forget();
        town.fined(0, 16);
        due("a PERSON", town.copy(1), 4);
        town.fined(1, 16);
        due("SMOKE goes up", town.copy(1), 4);
        town.forget();
        town.fined(0, 15);
        due("SMOKE in CELL 3", town.copy(3), 16);
        town.fined(1, 15);
        due("SKY is seen there with the WIND up", town.copy(3), 0);
        town.forget();
        town.fined(1, 15);
        due("SKY", town.copy(3), 1);
        town.forget();
        CHECK.same("copy", town, before);
        town.canvas(1);
        town.fined(0, 16);
        due("CANVAS shows what SHOULD be", town.copy(1), 255);
    }
}
