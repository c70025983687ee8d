/** Promises 1 to 7: a new object, THE TEXT, LAID, what he SEES, THE FINE. */
public final class TownsTest {
    private static final int BAD = Check.BAD, NO = Check.NO, FULL = Check.FULL, NONE = Check.NONE;
    private static final Check CHECK = new Check();

    private static void due(String call, long got, long want) {
        CHECK.due(call, got, want);
    }

    public static void main(String[] args) {
        promise1();
        promise2And3();
        promise4();
        promise5();
        promise5Resets();
        promise5LastCounts();
        promise6();
        promise6Trees();
        promise6Smoke();
        promise6Costs();
        promise7();
        CHECK.end();
    }

    private static void promise1() {
        PaintedTown town = new PaintedTown();
        int[] counts = {20, 4, 0, 0, 2, 12, 9, 0, 0, 0, 0};
        for (int what = 0; what < counts.length; what++) due("new count(" + what + ")", town.count(what), counts[what]);
        due("new fault", town.fault(), NONE);
        due("new lay", town.lay(), NO);
        due("new undo", town.undo(), NO);
        due("new back", town.back(), NO);
        due("new forget", town.forget(), 0);
        int[] should = {0, 0, 0, 4, 0, 0, 0, 0, 1, 1, 0, 2, 5, 7, 0, 0, 3, 0, 1, 0};
        int[] is = {0, 0, 4, 0, 0, 0, 0, 0, 1, 1, 0, 2, 5, 7, 0, 0, 0, 3, 1, 0};
        for (int x = 0; x < 20; x++) {
            due("new cell(" + x + ", 0)", town.cell(x, 0), should[x]);
            due("new cell(" + x + ", 1)", town.cell(x, 1), is[x]);
            due("new cell(" + x + ", 4)", town.cell(x, 4), 0);
            due("new cell(" + x + ", 5)", town.cell(x, 5), 0);
        }
        // 14 with the WIND right alone, 24, 18, 22 else: no day of the ten passes with 9
        due("new chance", town.chance(0), 0);
        PaintedTown other = new PaintedTown();
        other.put(0, 1);
        other.write('v');
        due("objects share nothing", town.cell(0, 1), 0);
        due("objects share no text", town.count(10), 0);
    }

    private static void promise2And3() {
        PaintedTown town = new PaintedTown();
        due("wipe of nothing", town.wipe(), 0);
        due("write(31)", town.write(31), BAD);
        due("write(127)", town.write(127), BAD);
        due("write(-1)", town.write(-1), BAD);
        due("write(Integer.MIN_VALUE)", town.write(Integer.MIN_VALUE), BAD);
        due("write(65536 + 'v')", town.write(65536 + 'v'), BAD);
        due("letters behind BAD", town.count(10), 0);
        due("write(32)", town.write(32), 1);
        due("write(126)", town.write(126), 2);
        due("count(10)", town.count(10), 2);
        due("wipe of two", town.wipe(), 2);
        for (int i = 1; i <= 200; i++) due("write " + i, town.write("l9;".charAt((i - 1) % 3)), i);
        due("write when full", town.write('v'), FULL);
        due("BAD when full", town.write(31), BAD);
        due("count(10) when full", town.count(10), 200);
        // 66 ITEMS of three letters, and two letters more
        due("fault at the end", town.fault(), 198);
        due("wipe of 200", town.wipe(), 200);
        due("wipe again", town.wipe(), 0);
        due("fault of an empty text", town.fault(), NONE);
        due("write behind wipe", town.write('l'), 1);
        due("fault behind wipe", town.fault(), 0);
    }

    private static void fault(String text, int want) {
        PaintedTown town = new PaintedTown();
        Check.write(town, text);
        String before = Check.look(town);
        due("fault of " + text, town.fault(), want);
        due("fault again of " + text, town.fault(), want);
        CHECK.same("fault of " + text, town, before);
        if (want != NONE) {
            due("lay of " + text, town.lay(), NO);
            CHECK.same("lay of " + text, town, before);
        }
    }

    private static void promise4() {
        String[] good = {
            "v4,5;", "v2,2;", "v6,6;", "v6,6;v2,2;", "v02,06;", "p0,0;", "p19,7;", "p07,05;", "i19,7;", "i0,0;",
            "v2,2;p3,1;", "v6,6;p35,1;i35,7;", "v2,2;v6,6;p35,1;", "e0;", "e99;", "e4;e5;", "w0;", "w3;", "w03;", "l0;",
            "l99;", "l1;l2;", "g10,0,0,0;", "g0,0,0,10;", "g1,2,3,4;", "g10,0,0,0;g0,10,0,0;", "p1,1;p1,2;i1,3;p1,4;",
            "v4,5;p3,4;p8,1;p9,1;p12,5;p11,2;p13,7;p16,3;p18,1;i3,0;i2,4;i16,0;i17,3;e12;w2;l9;g3,2,4,1;"
        };
        for (String text : good) fault(text, NONE);
        fault("", NONE);
        String[] wrong = {
            "v1,5;", "v7,2;", "v2,1;", "v2,7;", "v0,0;", "v4;", "v4,5,6;", "v;", "v4,5", "v4,", "v4", "v", "v4,5,", "v4,99;",
            "p20,0;", "p0,8;", "p0;", "p0,1,2;", "p99,1;", "p,1;", "p0,;", "p0,1", "p 0,1;", "p0, 1;", "p0,1 ;", "p-1,1;", "p0.1;", "p0:1;",
            "i20,0;", "i0,8;", "i0;", "i0,1,1;", "i", "e100;", "e001;", "e;", "e1,2;", "e1,;", "e1", "w4;", "w;", "w1,1;",
            "l100;", "l;", "l1,1;", "l-1;", "g1,2,3,5;", "g1,2,3;", "g1,2,3,3;", "g10;", "g2,2,2,2,2;", "g11,0,0,0;",
            "g10,0,0,0", "g10,0,0,0,;", "g010,0,0,0;", "x1;", "V4,5;", "P0,1;", ";", ",", "1;", " v4,5;", "~", "z", "e;;"
        };
        for (String text : wrong) {
            fault(text, 0);
            fault("l5;" + text, 3);
            fault("v4,5;e1;i0,1;" + text, 13);
            fault("v4,5;e1;i0,1;" + text + "w3;", 13);
        }
        fault("l5;v4,5;", 3);
        fault("v2,2;e0;v3,3;", 8);
        fault("v2,2;p4,0;", 5);
        fault("v6,6;v2,2;p3,1;p4,1;", 15);
        fault("v6,6;p36,1;", 5);
        fault("l5;;", 3);
        fault("l5;l5; l5;", 6);
        fault("l5;l5;x;y;", 6);
        fault("p0,1;p0,8;v1,1;", 5);
        fault("l5; ", 3);
        fault("g1,2,3,4;g1,2,3;", 9);
        fault("p1,2;p1;", 5);
    }

    private static void promise5() {
        PaintedTown town = new PaintedTown();
        String before = Check.look(town);
        Check.write(town, "v2,2;e4;");
        due("fault with the EYE nowhere", town.fault(), NONE);
        due("lay with the EYE nowhere", town.lay(), NO);
        CHECK.same("lay with the EYE nowhere", town, before);
        Check.write(town, "e3;");
        due("lay with the EYE on the last", town.lay(), 4);
        due("THE TEXT stays", town.count(10), 11);
        due("count(0)", town.count(0), 4);
        due("count(1)", town.count(1), 2);
        due("the EYE", town.count(5), 3);
        due("lay again", town.lay(), 4);
        due("EYE 19 without v", CHECK.laid("e19;").count(5), 19);
        PaintedTown wide = new PaintedTown();
        Check.write(wide, "e20;");
        due("EYE 20 without v", wide.lay(), NO);
        PaintedTown plain = CHECK.laid("l10;");
        int[] counts = {20, 4, 0, 0, 0, 0, 10, 0, 0, 0, 4};
        for (int what = 0; what < counts.length; what++) due("plain count(" + what + ")", plain.count(what), counts[what]);
        plain = CHECK.laid("w0;");
        due("L without", plain.count(6), 10);
        for (int x = 0; x < 20; x++) {
            due("plain should " + x, plain.cell(x, 0), 0);
            due("plain is " + x, plain.cell(x, 1), 0);
        }
        due("rows and columns told apart", CHECK.laid("v2,6;").count(1), 2);
        due("lay of v6,6", CHECK.laid("v6,6;").count(0), 36);
        due("no column 6", CHECK.laid("v2,6;p0,1;i0,0;").never(2), BAD);
    }

    private static void promise5Resets() {
        PaintedTown town = new PaintedTown();
        town.put(0, 5);
        town.pass(4);
        town.canvas(1);
        town.keep();
        town.fined(1, 1);
        town.wind(3);
        town.eye(7);
        Check.write(town, "v3,3;p4,5;i0,4;w1;e8;l0;");
        due("lay", town.lay(), 9);
        int[] counts = {9, 3, 0, 0, 1, 8, 0, 0, 0, 0, 24};
        for (int what = 0; what < counts.length; what++) due("laid count(" + what + ")", town.count(what), counts[what]);
        due("undo behind lay", town.undo(), NO);
        due("back behind lay", town.back(), NO);
        due("age behind lay", town.cell(4, 4), 0);
        due("thing behind lay", town.cell(0, 1), 4);
        String laid = Check.look(town);
        town.put(4, 0);
        town.mend(0);
        town.pass(20);
        due("lay anew", town.lay(), 9);
        CHECK.same("changes and lay anew", town, laid);
        town.wipe();
        Check.write(town, "v6,6;i35,1;");
        town.lay();
        town.wipe();
        Check.write(town, "v2,2;");
        town.lay();
        town.wipe();
        Check.write(town, "v6,6;");
        town.lay();
        due("nothing stays of a former town", town.fine(0), 0);
        due("nothing is in the last CELL", town.cell(35, 1), 0);
        town.wipe();
        Check.write(town, "v2,2;p0,1;l3;w3;e3;g0,0,0,10;");
        town.lay();
        town.wipe();
        Check.write(town, "i19,1;");
        due("lay without v", town.lay(), 20);
        due("rows without v", town.count(1), 4);
        due("nothing SHOULD be", town.cell(0, 0), 0);
        due("L without l", town.count(6), 10);
        due("WIND without w", town.count(4), 0);
        due("EYE without e", town.count(5), 0);
        town.put(0, 4);
        due("days without g", town.chance(0), 0);
    }

    private static void promise5LastCounts() {
        PaintedTown town = CHECK.laid("v6,6;v2,3;e9;e4;w1;w3;l7;l8;p0,1;i0,2;i1,5;p1,7;p2,3;p2,6;i3,4;i3,1;");
        due("the last v", town.count(0), 6);
        due("the last e", town.count(5), 4);
        due("the last w", town.count(4), 3);
        due("the last l", town.count(6), 8);
        int[] should = {1, 7, 6, 0}, is = {2, 7, 6, 1};
        for (int x = 0; x < 4; x++) {
            due("should " + x, town.cell(x, 0), should[x]);
            due("is " + x, town.cell(x, 1), is[x]);
        }
        // SMOKE that should be in CELL 1: seen there with the WIND right alone, from CELL 0
        String smoke = "v2,2;p1,4;i1,0;i0,4;p2,1;p3,1;l0;e1;";
        due("g without", CHECK.laid(smoke).chance(0), 0);
        due("the last g above", CHECK.laid(smoke + "g10,0,0,0;g2,2,6,0;").chance(0), 3);
        due("the last g below", CHECK.laid(smoke + "g10,0,0,0;g2,2,6,0;").chance(1), 5);
    }

    private static void promise6() {
        PaintedTown town = CHECK.laid("v2,2;");
        int[] wrong = {-1, 4, 20, Integer.MAX_VALUE, Integer.MIN_VALUE};
        for (int x : wrong) due("cell(" + x + ", 0)", town.cell(x, 0), BAD);
        for (int x : wrong) due("cell(" + x + ", 9)", town.cell(x, 9), BAD);
        int[] whats = {-1, 6, Integer.MAX_VALUE, Integer.MIN_VALUE};
        for (int what : whats) due("cell(0, " + what + ")", town.cell(0, what), BAD);
        for (int k = 0; k < 8; k++) {
            PaintedTown one = CHECK.laid("v2,2;p2,1;p3,1;i1," + k + ";");
            due("seen of " + k, one.cell(1, 2), k);
            one.canvas(1);
            due("seen of CANVAS before " + k, one.cell(1, 2), 0);
            due("CANVAS before " + k, one.cell(1, 5), 1);
            due("IS behind CANVAS " + k, one.cell(1, 1), k);
            due("cost behind CANVAS " + k, one.cell(1, 3), 0);
            one.canvas(1);
            due("seen of " + k + " again", one.cell(1, 2), k);
            due("CANVAS away " + k, one.cell(1, 5), 0);
        }
    }

    private static void promise6Trees() {
        PaintedTown town = CHECK.laid("v3,2;i2,5;i5,5;i1,4;");
        town.pass(2);
        due("age 2", town.cell(2, 4), 2);
        due("not grown", town.cell(0, 2), 0);
        town.pass(1);
        due("age 3", town.cell(2, 4), 3);
        due("no TREE: no age", town.cell(0, 4), 0);
        due("grown", town.cell(0, 2), 5);
        due("what IS above a grown TREE", town.cell(0, 1), 0);
        due("below a TREE", town.cell(4, 2), 0);
        due("TREE at another column", town.cell(1, 2), 4);
        town.put(3, 5);
        due("a young TREE", town.cell(1, 2), 4);
        town.pass(3);
        due("a TREE before SMOKE", town.cell(1, 2), 5);
        town.put(1, 1);
        due("a WALL before a TREE", town.cell(1, 2), 1);
        town.canvas(2);
        due("a TREE behind CANVAS", town.cell(0, 2), 5);
        due("the CELL of the CANVAS", town.cell(2, 2), 0);
        town.put(2, 0);
        due("no TREE more", town.cell(0, 2), 0);
    }

    private static void smoke(int d, int x, String text) {
        PaintedTown town = CHECK.laid(text + "w" + d + ";");
        for (int y = 0; y < town.count(0); y++) {
            if (town.cell(y, 1) == 1) continue;
            due("seen in " + y + " of " + text + " with the WIND " + d, town.cell(y, 2), y == x ? 4 : 0);
        }
    }

    private static void promise6Smoke() {
        smoke(0, 4, "v3,3;i4,4;");
        smoke(1, 1, "v3,3;i4,4;");
        smoke(2, 5, "v3,3;i4,4;");
        smoke(3, 3, "v3,3;i4,4;");
        smoke(3, 4, "v3,3;i5,4;");
        smoke(2, 4, "v3,3;i3,4;");
        smoke(1, -1, "v3,3;i2,4;");
        smoke(2, -1, "v3,3;i2,4;");
        smoke(3, -1, "v3,3;i3,4;");
        smoke(0, 0, "v3,3;i0,4;");
        smoke(0, 8, "v3,3;i8,4;");
        smoke(1, 5, "v3,3;i8,4;");
        smoke(2, -1, "v3,3;i8,4;");
        smoke(1, -1, "v3,3;i4,4;i1,1;");
        PaintedTown town = CHECK.laid("v3,3;p4,1;i4,4;w2;");
        town.canvas(4);
        due("SMOKE from behind CANVAS", town.cell(5, 2), 4);
        town.put(5, 4);
        due("SMOKE from the left over SMOKE", town.cell(5, 2), 4);
        town.wind(3);
        due("SMOKE from the right: none", town.cell(5, 2), 0);
    }

    private static void promise6Costs() {
        int[] sizes = {0, 4, 3, 2, 2, 3, 1, 2};
        for (int should = 0; should < 8; should++) {
            for (int is = 0; is < 8; is++) {
                for (int eye = 0; eye < 36; eye++) {
                    int x = 14, far = Math.abs(eye / 6 - 2) + Math.abs(eye % 6 - 2);
                    PaintedTown town = CHECK.laid("v6,6;p14," + should + ";i14," + is + ";e" + eye + ";");
                    int want = should == is ? 0 : Math.max(sizes[should], sizes[is]) * Math.max(1, 5 - far);
                    due("cost of " + is + " for " + should + " from " + eye, town.cell(x, 3), want);
                }
            }
        }
        due("rows and columns", CHECK.laid("v2,6;i11,1;e0;").cell(11, 3), 4);
        due("rows and columns, near", CHECK.laid("v2,6;i7,1;e0;").cell(7, 3), 12);
    }

    private static void promise7() {
        PaintedTown town = CHECK.laid("v6,6;l1;");
        int[] whats = {-1, 3, Integer.MAX_VALUE, Integer.MIN_VALUE};
        for (int what : whats) due("fine(" + what + ")", town.fine(what), BAD);
        // all far from the EYE: SWALLOWS cost 1, DOGS 2, PERSONS 3, WALLS 4
        int[][] steps = {{35, 6, 0}, {34, 6, 0}, {33, 6, 1}, {29, 3, 1}, {28, 2, 2}, {23, 2, 3}, {22, 1, 7}, {17, 6, 8}};
        int wrong = 0;
        for (int[] step : steps) {
            town.put(step[0], step[1]);
            wrong++;
            due("fine(0) with " + step[0], town.fine(0), step[2]);
            due("fine(1) with " + step[0], town.fine(1), step[2] <= 1 ? 1 : 0);
            due("fine(2) with " + step[0], town.fine(2), wrong);
        }
        town = CHECK.laid("v2,2;i0,1;e0;l20;");
        due("a WALL before the EYE", town.fine(0), 20);
        due("no more than L", town.fine(1), 1);
        due("more than L", CHECK.laid("v2,2;i0,1;e0;l19;").fine(1), 0);
        due("L 0, nothing WRONG", CHECK.laid("v2,2;l0;").fine(1), 1);
        due("SMALL before the EYE is not SMALL", CHECK.laid("v2,2;i0,6;e0;").fine(0), 5);
    }
}
