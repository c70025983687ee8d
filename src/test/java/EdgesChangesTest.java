/** Boundary cases of promises 8 to 15: mend, put, lop, canvas, wind, eye, pass, undo. */
public final class EdgesChangesTest {
    private static final int BAD = Edges.BAD, NO = Edges.NO;
    /** No CELLS of a VIEW of 4. */
    private static final int[] NO_CELLS = {-1, 4, 5, 19, 20, 35, 36, 99, 100};
    private static final int[] SIZES = {0, 4, 3, 2, 2, 3, 1, 2};

    public static void main(String[] args) {
        Edges.run(EdgesChangesTest.class, 8, 15);
    }

    private static void due(String call, long got, long want) {
        Edges.due(call, got, want);
    }

    // ---- 8

    static void p8_theFirstAndTheLastCell() {
        PaintedTown town = Edges.laid("v6,6;i0,1;i35,1;");
        due("mend(0)", town.mend(0), 0);
        due("mend(35)", town.mend(35), 0);
        due("mend(36)", town.mend(36), BAD);
        due("fine(2)", town.fine(2), 0);
        PaintedTown plain = Edges.laid("i19,1;");
        due("mend(19)", plain.mend(19), 0);
        due("mend(20)", plain.mend(20), BAD);
    }

    static void p8_noSuchCell() {
        for (int x : NO_CELLS) Edges.refused("mend(" + x + ")", BAD, town -> town.mend(x));
        for (int x : Edges.FAR) Edges.refused("mend(" + x + ")", BAD, town -> town.mend(x));
    }

    static void p8_itIsAsItShouldBe() {
        Edges.refusedBy("mend(1)", Edges.some(), Edges.some(), NO, town -> town.mend(1));
    }

    static void p8_itIsButIsNotSeen() {
        PaintedTown blown = Edges.laid("v2,2;p0,4;w2;");
        due("WRONG", blown.fine(2), 2);
        due("SMOKE blown away", blown.mend(0), NO);
        PaintedTown grown = Edges.laid("v2,2;i2,5;");
        grown.pass(3);
        due("seen", grown.cell(0, 2), 5);
        due("SKY with a TREE before it", grown.mend(0), NO);
        due("nothing to be UNDONE but the YEARS", grown.count(8), 1);
    }

    static void p8_itIsSeenButIsNot() {
        PaintedTown town = Edges.laid("v2,2;p0,1;i0,0;");
        town.canvas(0);
        due("not WRONG", town.cell(0, 3), 0);
        due("behind CANVAS", town.mend(0), 4);
        due("then", town.mend(0), NO);
        PaintedTown smoke = Edges.laid("v2,2;p1,4;i0,4;i1,0;w2;");
        due("not WRONG", smoke.cell(1, 3), 0);
        due("SMOKE from beside", smoke.mend(1), 2);
    }

    static void p8_whatEachCosts() {
        for (int k = 0; k < 8; k++) {
            PaintedTown town = Edges.laid("v2,2;p3," + k + ";i3," + (k == 6 ? 1 : 6) + ";");
            due("mend of " + k, town.mend(3), SIZES[k]);
            due("IS", town.cell(3, 1), k);
            due("SHOULD", town.cell(3, 0), k);
        }
    }

    static void p8_aTreeIs0YearsOld() {
        PaintedTown town = Edges.laid("v2,2;p2,5;i2,1;");
        town.pass(20);
        due("mend(2)", town.mend(2), 3);
        due("its age", town.cell(2, 4), 0);
        town.pass(2);
        due("not seen above", town.cell(0, 2), 0);
        town.pass(1);
        due("seen above", town.cell(0, 2), 5);
    }

    static void p8_aTreeThatIsThereStaysOld() {
        PaintedTown town = Edges.laid("v2,2;p2,5;");
        town.pass(3);
        due("mend(2)", town.mend(2), NO);
        due("its age", town.cell(2, 4), 3);
    }

    static void p8_theCanvasStays() {
        PaintedTown town = Edges.laid("v2,2;p2,1;i2,0;");
        town.canvas(2);
        town.mend(2);
        due("CANVAS", town.cell(2, 5), 1);
        due("count(2)", town.count(2), 1);
    }

    // ---- 9

    static void p9_theFirstAndTheLastCell() {
        PaintedTown town = Edges.laid("v6,6;");
        due("put(0, 7)", town.put(0, 7), 0);
        due("put(35, 7)", town.put(35, 7), 0);
        due("put(36, 7)", town.put(36, 7), BAD);
        due("fine(2)", town.fine(2), 2);
        PaintedTown plain = Edges.laid("l1;");
        due("put(19, 1)", plain.put(19, 1), 0);
        due("put(20, 1)", plain.put(20, 1), BAD);
    }

    static void p9_noSuchCell() {
        for (int x : NO_CELLS) Edges.refused("put(" + x + ", 1)", BAD, town -> town.put(x, 1));
        for (int x : Edges.FAR) Edges.refused("put(" + x + ", 1)", BAD, town -> town.put(x, 1));
    }

    static void p9_theFirstAndTheLastThing() {
        PaintedTown town = Edges.laid("v2,2;i0,1;");
        due("put(0, 0)", town.put(0, 0), 1);
        due("put(0, 7)", town.put(0, 7), 0);
    }

    static void p9_noSuchThing() {
        for (int k : Edges.FAR) Edges.refused("put(0, " + k + ")", BAD, town -> town.put(0, k));
        Edges.refused("put(0, -1)", BAD, town -> town.put(0, -1));
        Edges.refused("put(0, 8)", BAD, town -> town.put(0, 8));
        Edges.refused("put(4, 8)", BAD, town -> town.put(4, 8));
    }

    static void p9_itIsThere() {
        Edges.refused("put(0, 1)", NO, town -> town.put(0, 1));
        Edges.refused("put(3, 4)", NO, town -> town.put(3, 4));
        for (int k = 0; k < 8; k++) due("put again " + k, Edges.laid("v2,2;i3," + k + ";").put(3, k), NO);
    }

    static void p9_anOldTreeIsThere() {
        Edges.refused("put(2, 5)", NO, town -> town.put(2, 5));
        PaintedTown town = Edges.some();
        town.put(2, 5);
        due("its age", town.cell(2, 4), 3);
    }

    static void p9_badIsAheadOfNo() {
        due("put(-1, 0)", Edges.laid("v2,2;").put(-1, 0), BAD);
        due("put(4, 0)", Edges.laid("v2,2;").put(4, 0), BAD);
    }

    static void p9_eachForEach() {
        PaintedTown town = Edges.laid("v2,2;");
        for (int was = 0; was < 8; was++) {
            for (int k = 0; k < 8; k++) {
                town.put(1, was);
                due("put of " + k + " for " + was, town.put(1, k), k == was ? NO : was);
                due("IS", town.cell(1, 1), k);
            }
        }
    }

    static void p9_aTreeIs0YearsOld() {
        PaintedTown town = Edges.laid("v2,2;i2,5;");
        town.pass(3);
        town.put(2, 1);
        due("a WALL has no age", town.cell(2, 4), 0);
        due("put of a TREE", town.put(2, 5), 1);
        due("its age", town.cell(2, 4), 0);
        due("not seen above", town.cell(0, 2), 0);
    }

    static void p9_whatShouldBeStays() {
        PaintedTown town = Edges.laid("v2,2;p1,2;");
        town.put(1, 3);
        due("SHOULD", town.cell(1, 0), 2);
    }

    // ---- 10

    static void p10_ofNoTrees() {
        PaintedTown town = Edges.laid("v2,2;");
        due("lop()", town.lop(), 0);
        due("it can be UNDONE", town.count(8), 1);
    }

    static void p10_of2YearsAndOf3() {
        PaintedTown town = Edges.laid("v2,2;i2,5;");
        town.pass(2);
        due("of 2", town.lop(), 0);
        due("age", town.cell(2, 4), 0);
        town.pass(3);
        due("of 3", town.lop(), 1);
        due("age", town.cell(2, 4), 0);
    }

    static void p10_again() {
        PaintedTown town = Edges.laid("v2,2;i2,5;");
        town.pass(20);
        due("lop()", town.lop(), 1);
        due("lop() again", town.lop(), 0);
        town.pass(2);
        due("2 YEARS on", town.lop(), 0);
    }

    static void p10_ofAllCells() {
        PaintedTown town = Edges.laid("v6,6;");
        for (int x = 0; x < 36; x++) town.put(x, 5);
        town.pass(3);
        due("lop()", town.lop(), 36);
        for (int x = 0; x < 36; x++) due("age " + x, town.cell(x, 4), 0);
        due("lop() again", town.lop(), 0);
    }

    static void p10_theFirstAndTheLastCell() {
        PaintedTown town = Edges.laid("v6,6;i0,5;i35,5;");
        town.pass(3);
        due("lop()", town.lop(), 2);
    }

    static void p10_behindCanvas() {
        PaintedTown town = Edges.laid("v2,2;i2,5;");
        town.canvas(2);
        town.pass(3);
        due("lop()", town.lop(), 1);
        due("age", town.cell(2, 4), 0);
    }

    static void p10_theTreesStayLow() {
        PaintedTown town = Edges.laid("v2,2;i2,5;");
        town.pass(3);
        due("seen above", town.cell(0, 2), 5);
        town.lop();
        due("not seen above", town.cell(0, 2), 0);
        due("still a TREE", town.cell(2, 1), 5);
        due("YEARS gone by", town.count(3), 3);
    }

    // ---- 11

    static void p11_theFirstAndTheLastCell() {
        PaintedTown town = Edges.laid("v6,6;");
        due("canvas(0)", town.canvas(0), 1);
        due("canvas(35)", town.canvas(35), 1);
        due("canvas(36)", town.canvas(36), BAD);
        due("count(2)", town.count(2), 2);
        PaintedTown plain = Edges.laid("l1;");
        due("canvas(19)", plain.canvas(19), 1);
        due("canvas(20)", plain.canvas(20), BAD);
    }

    static void p11_noSuchCell() {
        for (int x : NO_CELLS) Edges.refused("canvas(" + x + ")", BAD, town -> town.canvas(x));
        for (int x : Edges.FAR) Edges.refused("canvas(" + x + ")", BAD, town -> town.canvas(x));
    }

    static void p11_hungAndTakenAway() {
        PaintedTown town = Edges.laid("v2,2;i0,1;");
        for (int i = 0; i < 6; i++) {
            due("canvas(0)", town.canvas(0), i % 2 == 0 ? 1 : 0);
            due("cell(0, 5)", town.cell(0, 5), i % 2 == 0 ? 1 : 0);
            due("WRONG", town.fine(2), i % 2 == 0 ? 0 : 1);
        }
    }

    static void p11_beforeAllCells() {
        PaintedTown town = Edges.laid("v6,6;");
        for (int x = 0; x < 36; x++) {
            town.put(x, 1);
            due("canvas(" + x + ")", town.canvas(x), 1);
        }
        due("count(2)", town.count(2), 36);
        due("fine(0)", town.fine(0), 0);
        for (int x = 0; x < 36; x++) due("canvas(" + x + ")", town.canvas(x), 0);
        due("count(2)", town.count(2), 0);
    }

    static void p11_theThingStays() {
        PaintedTown town = Edges.laid("v2,2;i0,1;");
        town.canvas(0);
        due("IS", town.cell(0, 1), 1);
        due("seen", town.cell(0, 2), 0);
    }

    // ---- 12

    static void p12_theFirstAndTheLast() {
        PaintedTown town = Edges.laid("v2,2;w1;");
        due("wind(0)", town.wind(0), 1);
        due("wind(3)", town.wind(3), 0);
        due("count(4)", town.count(4), 3);
    }

    static void p12_noSuchWind() {
        for (int d : Edges.FAR) Edges.refused("wind(" + d + ")", BAD, town -> town.wind(d));
        Edges.refused("wind(-1)", BAD, town -> town.wind(-1));
        Edges.refused("wind(4)", BAD, town -> town.wind(4));
    }

    static void p12_eachBehindEach() {
        PaintedTown town = Edges.laid("v2,2;");
        for (int was = 0; was < 4; was++) {
            for (int d = 0; d < 4; d++) {
                town.wind(was);
                due("wind(" + d + ")", town.wind(d), was);
                due("count(4)", town.count(4), d);
            }
        }
    }

    static void p12_toWhatItIs() {
        PaintedTown town = Edges.laid("v2,2;w2;");
        due("wind(2)", town.wind(2), 2);
        due("it can be UNDONE", town.count(8), 1);
    }

    // ---- 13

    static void p13_theFirstAndTheLastCell() {
        PaintedTown town = Edges.laid("v6,6;e7;");
        due("eye(0)", town.eye(0), 7);
        due("eye(35)", town.eye(35), 0);
        due("eye(36)", town.eye(36), BAD);
        due("count(5)", town.count(5), 35);
        PaintedTown plain = Edges.laid("l1;");
        due("eye(19)", plain.eye(19), 0);
        due("eye(20)", plain.eye(20), BAD);
    }

    static void p13_noSuchCell() {
        for (int x : NO_CELLS) Edges.refused("eye(" + x + ")", BAD, town -> town.eye(x));
        for (int x : Edges.FAR) Edges.refused("eye(" + x + ")", BAD, town -> town.eye(x));
    }

    static void p13_toWhereItIs() {
        PaintedTown town = Edges.laid("v2,2;e3;");
        due("eye(3)", town.eye(3), 3);
        due("it can be UNDONE", town.count(8), 1);
    }

    static void p13_whatIsSeenStays() {
        PaintedTown town = Edges.laid("v6,6;i14,1;e14;");
        due("before it", town.fine(0), 20);
        town.eye(35);
        due("seen", town.cell(14, 2), 1);
        due("far from it", town.fine(0), 4);
    }

    // ---- 14

    static void p14_oneAnd20() {
        PaintedTown town = Edges.laid("v2,2;");
        due("pass(1)", town.pass(1), 1);
        due("pass(20)", town.pass(20), 21);
        due("count(3)", town.count(3), 21);
    }

    static void p14_noSuchNumber() {
        for (int n : Edges.FAR) Edges.refused("pass(" + n + ")", BAD, town -> town.pass(n));
        Edges.refused("pass(0)", BAD, town -> town.pass(0));
        Edges.refused("pass(21)", BAD, town -> town.pass(21));
        Edges.refused("pass(-1)", BAD, town -> town.pass(-1));
    }

    static void p14_eachNumber() {
        PaintedTown town = Edges.laid("v2,2;i0,5;");
        int all = 0;
        for (int n = 1; n <= 20; n++) {
            all += n;
            due("pass(" + n + ")", town.pass(n), all);
            due("age", town.cell(0, 4), all);
        }
    }

    static void p14_eachTreeThatIs() {
        PaintedTown town = Edges.laid("v2,2;p1,5;i1,0;i0,5;i3,5;");
        town.pass(1);
        town.put(1, 5);
        town.canvas(3);
        town.pass(2);
        int[] ages = {3, 2, 0, 3};
        for (int x = 0; x < 4; x++) due("age " + x, town.cell(x, 4), ages[x]);
    }

    static void p14_theLastCallOf512() {
        // 7 calls ahead: write of 5, lay, put
        PaintedTown town = Edges.laid("v2,2;");
        town.put(2, 5);
        for (int call = 8; call <= 511; call++) town.pass(20);
        due("the 512th", town.pass(20), 505 * 20);
        town = Edges.laid("v2,2;");
        town.put(2, 5);
        for (int call = 8; call <= 511; call++) town.pass(20);
        due("the 512th", town.cell(2, 4), 504 * 20);
    }

    // ---- 15

    static void p15_nothingYet() {
        PaintedTown town = Edges.laid("v2,2;");
        due("undo()", town.undo(), NO);
        due("undo() again", town.undo(), NO);
    }

    static void p15_nothingMoreChangesNothing() {
        PaintedTown one = Edges.full(), other = Edges.full();
        for (int i = 0; i < 8; i++) {
            one.undo();
            other.undo();
        }
        Edges.refusedBy("undo() of a ninth", one, other, NO, town -> town.undo());
        one = Edges.some();
        other = Edges.some();
        one.back();
        other.back();
        Edges.refusedBy("undo() behind back()", one, other, NO, town -> town.undo());
    }

    static void p15_one() {
        PaintedTown town = Edges.laid("v2,2;");
        town.put(0, 1);
        due("undo()", town.undo(), 0);
        due("IS", town.cell(0, 1), 0);
        due("undo() again", town.undo(), NO);
    }

    static void p15_theLast8() {
        for (int changes = 7; changes <= 20; changes++) {
            PaintedTown town = Edges.laid("v6,6;");
            for (int x = 0; x < changes; x++) town.put(x, 1);
            int can = Math.min(changes, 8);
            due("count(8)", town.count(8), can);
            for (int left = can - 1; left >= 0; left--) {
                due("undo()", town.undo(), left);
                due("WALLS", town.fine(2), changes - can + left);
            }
            due("undo() of one more", town.undo(), NO);
            due("WALLS that stay", town.fine(2), changes - can);
        }
    }

    static void p15_8AndThen8Again() {
        PaintedTown town = Edges.laid("v6,6;");
        for (int round = 0; round < 5; round++) {
            for (int x = 0; x < 8; x++) town.put(x + round, 1);
            for (int left = 7; left >= 0; left--) due("undo()", town.undo(), left);
            due("none", town.fine(2), 0);
            due("undo()", town.undo(), NO);
        }
    }

    static void p15_changesBehindOneUndone() {
        PaintedTown town = Edges.laid("v2,2;");
        town.put(0, 1);
        town.put(0, 2);
        due("undo()", town.undo(), 1);
        town.put(0, 3);
        due("count(8)", town.count(8), 2);
        town.undo();
        due("as before the third", town.cell(0, 1), 1);
        town.undo();
        due("as before the first", town.cell(0, 1), 0);
        due("undo()", town.undo(), NO);
    }

    static void p15_lopOfNoTrees() {
        PaintedTown town = Edges.laid("v2,2;");
        town.put(0, 1);
        town.lop();
        due("undo()", town.undo(), 1);
        due("the WALL stays", town.cell(0, 1), 1);
    }

    static void p15_windToWhatItIs() {
        PaintedTown town = Edges.laid("v2,2;w3;");
        town.wind(1);
        town.wind(1);
        due("undo()", town.undo(), 1);
        due("count(4)", town.count(4), 1);
        due("undo()", town.undo(), 0);
        due("count(4)", town.count(4), 3);
    }

    static void p15_eyeToWhereItIs() {
        PaintedTown town = Edges.laid("v2,2;e3;");
        town.eye(1);
        town.eye(1);
        due("undo()", town.undo(), 1);
        due("count(5)", town.count(5), 1);
        due("undo()", town.undo(), 0);
        due("count(5)", town.count(5), 3);
    }

    static void p15_allYearsAtOneTime() {
        PaintedTown town = Edges.laid("v2,2;i2,5;");
        town.pass(1);
        town.pass(20);
        due("undo()", town.undo(), 1);
        due("count(3)", town.count(3), 1);
        due("age", town.cell(2, 4), 1);
        due("undo()", town.undo(), 0);
        due("count(3)", town.count(3), 0);
        due("age", town.cell(2, 4), 0);
    }

    static void p15_aTreeIsAsOldAsItWas() {
        PaintedTown town = Edges.laid("v2,2;p3,1;i3,5;i2,5;");
        town.pass(5);
        town.lop();
        town.undo();
        due("lopped", town.cell(2, 4), 5);
        town.put(2, 1);
        town.undo();
        due("PUT another", town.cell(2, 4), 5);
        town.mend(3);
        town.undo();
        due("MENDED", town.cell(3, 4), 5);
        due("a TREE again", town.cell(3, 1), 5);
    }

    static void p15_canvasAsItHung() {
        PaintedTown town = Edges.laid("v2,2;");
        town.canvas(3);
        town.canvas(3);
        town.undo();
        due("hung", town.cell(3, 5), 1);
        town.undo();
        due("not hung", town.cell(3, 5), 0);
    }

    static void p15_refusedOnesAreNone() {
        PaintedTown town = Edges.laid("v2,2;");
        town.wipe();
        town.canvas(0);
        int[] refused = {
            town.mend(0), town.mend(-1), town.put(0, 0), town.put(0, 8), town.canvas(4), town.wind(4), town.eye(4),
            town.pass(0), town.pass(21), town.lay(), town.back()
        };
        for (int answer : refused) due("refused", answer == BAD || answer == NO ? 1 : 0, 1);
        due("count(8)", town.count(8), 1);
        due("undo()", town.undo(), 0);
        due("count(2)", town.count(2), 0);
    }

    static void p15_othersAreNone() {
        PaintedTown town = Edges.laid("v2,2;");
        town.canvas(0);
        town.fined(0, 0);
        town.keep();
        town.write('l');
        town.least(0);
        town.year(1, 40, 0);
        town.moved(0);
        town.forget();
        town.wipe();
        due("undo()", town.undo(), 0);
        due("count(2)", town.count(2), 0);
        due("KEPT", town.count(9), 1);
        due("THE TEXT", town.count(10), 0);
    }
}
