/** Promises 26 to 31: BY the WIND, CHANCE, a YEAR by draws, KEPT, how many. */
public final class WindsTest {
    private static final int BAD = Check.BAD, NO = Check.NO, FULL = Check.FULL;
    private static final int HUGE = Integer.MAX_VALUE, TINY = Integer.MIN_VALUE;
    private static final Check CHECK = new Check();

    private static void due(String call, long got, long want) {
        CHECK.due(call, got, want);
    }

    public static void main(String[] args) {
        promise26();
        promise27();
        promise28();
        promise28ByHand();
        promise29And30();
        promise30Undo();
        promise31();
        CHECK.end();
    }

    private static void promise26() {
        PaintedTown town = CHECK.laid("v3,3;i4,4;e4;w3;");
        String before = Check.look(town);
        int[] winds = {-1, 4, HUGE, TINY};
        for (int d : winds) due("by(" + d + ")", town.by(d), BAD);
        int[] sums = {10, 8, 8, 8};
        for (int d = 0; d < 4; d++) due("by(" + d + ")", town.by(d), sums[d]);
        town.eye(1);
        int[] higher = {8, 10, 6, 6};
        for (int d = 0; d < 4; d++) due("by(" + d + ") from above", town.by(d), higher[d]);
        town.undo();
        CHECK.same("by", town, before);
        due("the WIND stays", town.count(4), 3);
    }

    private static void chance(String days, int limit, int above, int below) {
        // with the WIND nowhere 10, up 8, right 6, left 0
        PaintedTown town = CHECK.laid("v3,3;i3,4;e3;w1;" + days + "l" + limit + ";");
        due("chance(0) of " + days + limit, town.chance(0), above);
        due("chance(1) of " + days + limit, town.chance(1), below);
    }

    private static void promise27() {
        PaintedTown town = CHECK.laid("v3,3;i3,4;e3;");
        int[] parts = {-1, 2, HUGE, TINY};
        for (int part : parts) due("chance(" + part + ")", town.chance(part), BAD);
        int[] sums = {10, 8, 8, 0};
        for (int d = 0; d < 4; d++) due("by(" + d + ")", town.by(d), sums[d]);
        chance("", 9, 0, 1);
        chance("", 10, 1, 1);
        chance("g1,2,3,4;", 0, 2, 5);
        chance("g1,2,3,4;", 8, 9, 10);
        chance("g1,2,3,4;", 10, 1, 1);
        chance("g5,2,3,0;", 8, 1, 2);
        chance("g5,2,3,0;", 7, 0, 1);
        chance("g3,0,0,7;", 7, 7, 10);
        chance("g0,0,2,8;", 7, 4, 5);
        chance("g0,0,8,2;", 7, 1, 5);
        chance("g0,0,4,6;", 7, 3, 5);
        chance("g0,0,7,3;", 7, 3, 10);
        chance("g0,0,9,1;", 7, 1, 10);
    }

    private static void promise28() {
        PaintedTown town = CHECK.laid("v2,3;i0,5;p4,2;i5,4;w1;l12;");
        town.pass(2);
        town.canvas(4);
        String before = Check.look(town);
        int[] seeds = {-1, 10000, HUGE, TINY}, lengths = {-1, 0, 41, HUGE, TINY}, whats = {-1, 2, HUGE, TINY};
        for (int z : seeds) due("year(" + z + ", 1, 0)", town.year(z, 1, 0), BAD);
        for (int n : lengths) due("year(0, " + n + ", 0)", town.year(0, n, 0), BAD);
        for (int what : whats) due("year(0, 1, " + what + ")", town.year(0, 1, what), BAD);
        for (int z = 0; z <= 9999; z += 1111) {
            int passes = town.year(z, 40, 0);
            due("passes are some", passes >= 0 && passes <= 40 ? 1 : 0, 1);
            due("the same again", town.year(z, 40, 0), passes);
        }
        CHECK.same("year", town, before);
    }

    private static void promise28ByHand() {
        // z = 0, k = 0: x is 1, DRAW 0: SKY into CELL 0, the WIND nowhere
        PaintedTown town = CHECK.laid("v2,2;i1,1;i0,1;e1;l20;w2;");
        due("year(0, 1, 1)", town.year(0, 1, 1), 20);
        due("year(0, 1, 0)", town.year(0, 1, 0), 1);
        // k = 1: x is 6152, x times x 37847104, modulo 65521 41487, DRAW 20743:
        // (20743 by 8) modulo 8 is 0, CELL 3; the WIND (20743 by 64) modulo 4 is 0
        due("year(0, 2, 1)", town.year(0, 2, 1), 40);
        // z = 1, k = 0: x is 7920, x times x 62726400, modulo 65521 22803, DRAW 11401:
        // (11401 by 8) modulo 8 is 1: a WALL; into CELL 1; the WIND (11401 by 64) modulo 4 is 2
        long x = 7920, draw = x * x % 65521 / 2;
        int cell = (int) (draw % 4), thing = (int) (draw / 8 % 8), wind = (int) (draw / 64 % 4);
        due("the DRAW", draw, 11401);
        due("the CELL", cell, 1);
        due("the thing", thing, 1);
        due("the WIND", wind, 2);
        town = CHECK.laid("v2,2;i2,4;e3;w0;");
        // WALL seen in CELL 1 (16), SMOKE goes from CELL 2 to 3 (10)
        due("year(1, 1, 1)", town.year(1, 1, 1), 26);
        due("year(1, 1, 0)", town.year(1, 1, 0), 0);
        // a YEAR goes by: the TREE in CELL 2 is seen in CELL 0, which it was not before
        town = CHECK.laid("v2,2;p2,5;e0;l16;");
        town.pass(2);
        due("year(1, 1, 1) of a TREE", town.year(1, 1, 1), 15 + 16);
        town.lop();
        due("year(1, 1, 1) of a young TREE", town.year(1, 1, 1), 16);
        due("year(1, 1, 0) of a young TREE", town.year(1, 1, 0), 1);
        // what is there already stays as old as it is
        int z = 0;
        while (x(z) % 4 != 2 || x(z) / 8 % 8 != 5) z++;
        town = CHECK.laid("v2,2;p2,5;e0;");
        due("a TREE PUT for a TREE, young", town.year(z, 1, 1), 0);
        town.pass(2);
        due("a TREE is there already", town.year(z, 1, 1), 15);
        town.put(2, 0);
        due("a TREE PUT for SKY", town.year(z, 1, 1), 0);
    }

    private static long x(int z) {
        long x = 7919L * z + 1;
        return x * x % 65521 / 2;
    }

    private static void promise29And30() {
        PaintedTown town = CHECK.laid("v3,3;p3,5;i4,4;l7;w1;e4;");
        due("back of nothing", town.back(), NO);
        town.pass(2);
        town.canvas(1);
        town.fined(1, 1);
        String first = Check.look(town);
        due("keep", town.keep(), 1);
        town.put(0, 5);
        town.mend(4);
        town.wind(3);
        town.eye(8);
        town.pass(3);
        town.canvas(2);
        String second = Check.look(town);
        due("keep", town.keep(), 2);
        due("keep of a third", town.keep(), FULL);
        due("count(9)", town.count(9), 2);
        town.lop();
        town.canvas(1);
        due("keep can't be undone", town.undo(), 8 - 1);
        town.fined(2, 2);
        town.write('l');
        due("back", town.back(), 1);
        due("what was FINED stays", town.count(7), 2);
        due("THE TEXT stays", town.count(10), 25);
        due("nothing is UNDONE", town.undo(), NO);
        due("count(8)", town.count(8), 0);
        town.forget();
        town.fined(1, 1);
        due("as it was second", same(town, second), 1);
        town.pass(1);
        due("undo behind back", town.undo(), 0);
        due("back again", town.back(), 0);
        due("as it was first", same(town, first), 1);
        due("back of nothing", town.back(), NO);
        due("keep again", town.keep(), 1);
    }

    /** But how many can be UNDONE, are FINED and KEPT. */
    private static int same(PaintedTown town, String before) {
        String[] now = Check.look(town).split(" ", 11), then = before.split(" ", 11);
        boolean same = true;
        for (int i = 0; i < 11; i++) {
            if (i < 7 || i > 9) same &= now[i].equals(then[i].replaceFirst("^[0-9]+\\|", now[i].replaceFirst("\\|.*", "") + "|"));
        }
        if (!same) System.out.println("now " + String.join(" ", now) + "\nwas " + String.join(" ", then));
        return same ? 1 : 0;
    }

    private static void promise30Undo() {
        PaintedTown town = CHECK.laid("v2,2;");
        town.keep();
        town.put(0, 1);
        town.undo();
        due("KEPT is not UNDONE", town.count(9), 1);
        town.put(0, 2);
        town.put(0, 3);
        town.keep();
        due("undo behind keep", town.undo(), 1);
        due("back to the third", town.back(), 1);
        due("the DOG", town.cell(0, 1), 3);
        due("back to the first", town.back(), 0);
        due("SKY", town.cell(0, 1), 0);
        for (int i = 0; i < 12; i++) {
            town.put(1, i % 7 + 1);
            due("keep " + i, town.keep(), 1);
            town.put(1, 0);
            due("back " + i, town.back(), 0);
            due("thing " + i, town.cell(1, 1), i % 7 + 1);
        }
    }

    private static void promise31() {
        PaintedTown town = CHECK.laid("v6,3;e17;w3;l99;");
        int[] wrong = {-1, 11, 12, HUGE, TINY};
        for (int what : wrong) due("count(" + what + ")", town.count(what), BAD);
        int[] counts = {18, 6, 0, 0, 3, 17, 99, 0, 0, 0, 16};
        for (int what = 0; what <= 10; what++) due("count(" + what + ")", town.count(what), counts[what]);
        town.canvas(0);
        town.canvas(17);
        town.pass(11);
        town.wind(2);
        town.eye(3);
        town.fined(0, 0);
        town.keep();
        town.write('~');
        int[] later = {18, 6, 2, 11, 2, 3, 99, 1, 5, 1, 17};
        for (int what = 0; what <= 10; what++) due("later count(" + what + ")", town.count(what), later[what]);
        due("what ended no call", town.count(2), 2);
    }
}
