/** Boundary cases of promises 16 to 20: behind, until, least, canvases, never. */
public final class EdgesComesTest {
    private static final int BAD = Edges.BAD, NONE = Edges.NONE;
    /** A TREE, as it SHOULD be, that will be WRONG above it, before the EYE: for 15, 3 YEARS on. */
    private static final String GROWING = "v2,2;p2,5;e0;";
    /** WALLS that SHOULD not be, for 8, 12, 16, 20 in CELLS 0, 1, 2, 3. */
    private static final String FOUR_WALLS = "v6,6;e3;i0,1;i1,1;i2,1;i3,1;";

    public static void main(String[] args) {
        Edges.run(EdgesComesTest.class, 16, 20);
    }

    private static void due(String call, long got, long want) {
        Edges.due(call, got, want);
    }

    // ---- 16

    static void p16_noSuchYears() {
        for (int n : Edges.FAR) Edges.refused("behind(" + n + ", 0)", BAD, town -> town.behind(n, 0));
        Edges.refused("behind(-1, 0)", BAD, town -> town.behind(-1, 0));
        Edges.refused("behind(21, 0)", BAD, town -> town.behind(21, 0));
        Edges.refused("behind(-1, 1)", BAD, town -> town.behind(-1, 1));
        Edges.refused("behind(21, 1)", BAD, town -> town.behind(21, 1));
    }

    static void p16_noSuchQuestion() {
        for (int what : Edges.FAR) Edges.refused("behind(0, " + what + ")", BAD, town -> town.behind(0, what));
        Edges.refused("behind(0, -1)", BAD, town -> town.behind(0, -1));
        Edges.refused("behind(0, 2)", BAD, town -> town.behind(0, 2));
        Edges.refused("behind(21, 2)", BAD, town -> town.behind(21, 2));
    }

    static void p16_changesNothing() {
        Edges.asked("behind(0, 0)", town -> town.behind(0, 0));
        Edges.asked("behind(20, 0)", town -> town.behind(20, 0));
        Edges.asked("behind(20, 1)", town -> town.behind(20, 1));
    }

    static void p16_noYears() {
        PaintedTown some = Edges.some(), full = Edges.full();
        due("THE FINE of some", some.behind(0, 0), some.fine(0));
        due("whether some PASSES", some.behind(0, 1), some.fine(1));
        due("THE FINE of full", full.behind(0, 0), full.fine(0));
        due("whether full PASSES", full.behind(0, 1), full.fine(1));
    }

    static void p16_theThirdYear() {
        PaintedTown town = Edges.laid(GROWING + "l14;");
        due("behind(2, 0)", town.behind(2, 0), 0);
        due("behind(2, 1)", town.behind(2, 1), 1);
        due("behind(3, 0)", town.behind(3, 0), 15);
        due("behind(3, 1)", town.behind(3, 1), 0);
        due("behind(20, 0)", town.behind(20, 0), 15);
        due("behind(20, 1)", town.behind(20, 1), 0);
    }

    static void p16_noMoreThanL() {
        due("15 of 15", Edges.laid(GROWING + "l15;").behind(20, 1), 1);
        due("15 of 14", Edges.laid(GROWING + "l14;").behind(20, 1), 0);
    }

    static void p16_asIfTheyHadGoneBy() {
        for (int n = 1; n <= 20; n++) {
            PaintedTown one = Edges.some(), other = Edges.some();
            one.put(2, 1);
            other.put(2, 1);
            one.put(2, 5);
            other.put(2, 5);
            other.pass(n);
            due("THE FINE behind " + n, one.behind(n, 0), other.fine(0));
            due("whether it PASSES behind " + n, one.behind(n, 1), other.fine(1));
        }
    }

    // ---- 17

    static void p17_atOnce() {
        due("WRONG now", Edges.laid("v2,2;i0,1;l19;").until(), 0);
        due("L 0", Edges.laid("v6,6;i35,2;l0;").until(), 0);
    }

    static void p17_atOnceThoughNotLater() {
        // a TREE SHOULD be seen above the other one: 15 too much now, right 3 YEARS on
        PaintedTown town = Edges.laid("v2,2;p2,5;p0,5;i0,0;e0;l14;");
        due("behind(0, 1)", town.behind(0, 1), 0);
        due("behind(3, 1)", town.behind(3, 1), 1);
        due("until()", town.until(), 0);
    }

    static void p17_each() {
        PaintedTown town = Edges.laid(GROWING + "l14;");
        due("a TREE of 0", town.until(), 3);
        town.pass(1);
        due("a TREE of 1", town.until(), 2);
        town.pass(1);
        due("a TREE of 2", town.until(), 1);
        town.pass(1);
        due("a TREE of 3", town.until(), 0);
    }

    static void p17_noneUpTo20() {
        due("nothing there", Edges.laid("v2,2;l0;").until(), NONE);
        due("no more than L", Edges.laid(GROWING + "l15;").until(), NONE);
        due("more than L", Edges.laid(GROWING + "l14;").until(), 3);
        PaintedTown town = Edges.laid(GROWING + "l15;");
        town.pass(20);
        due("an old TREE", town.until(), NONE);
    }

    static void p17_theFirstOfTheYears() {
        // 12 now, for the TREE that is not seen in CELL 1; 27 behind 1 YEAR; 15 behind 2, when it is seen there
        PaintedTown town = Edges.laid("v2,2;p2,5;p3,5;i3,0;p1,5;i1,0;e0;l15;");
        town.pass(1);
        town.put(3, 5);
        town.pass(1);
        int[] sums = {12, 27, 15};
        for (int n = 0; n <= 2; n++) due("behind(" + n + ", 0)", town.behind(n, 0), sums[n]);
        due("until()", town.until(), 1);
    }

    static void p17_changesNothing() {
        Edges.asked("until()", town -> town.until());
    }

    // ---- 18

    /** LEAST, or CANVASES: as much, how many; then its CELLS; no more of them. */
    private static void chosen(String of, PaintedTown town, boolean canvas, int... want) {
        for (int k = 0; k <= 3; k++) {
            int got = canvas ? town.canvases(k) : town.least(k);
            due(of + " " + k, got, k < want.length ? want[k] : NONE);
        }
    }

    private static void least(String text, int... want) {
        chosen("least of " + text, Edges.laid(text), false, want);
    }

    private static void canvases(String text, int... want) {
        chosen("canvases of " + text, Edges.laid(text), true, want);
    }

    static void p18_noSuchCell() {
        for (int k : Edges.FAR) Edges.refused("least(" + k + ")", BAD, town -> town.least(k));
        Edges.refused("least(-1)", BAD, town -> town.least(-1));
        Edges.refused("least(4)", BAD, town -> town.least(4));
    }

    static void p18_badIsAheadOfNone() {
        PaintedTown none = Edges.laid("v2,2;i0,1;i1,1;i2,1;i3,1;l0;");
        due("least(0)", none.least(0), NONE);
        due("least(3)", none.least(3), NONE);
        due("least(4)", none.least(4), BAD);
        due("least(-1)", none.least(-1), BAD);
    }

    static void p18_changesNothing() {
        for (int k = 0; k <= 3; k++) {
            int asked = k;
            Edges.asked("least(" + k + ")", town -> town.least(asked));
        }
    }

    static void p18_nothingHasToBeMended() {
        least("v2,2;l0;", 0);
        least("v2,2;i0,1;l20;", 0);
        least("v2,2;i0,1;l19;", 0, 0);
    }

    static void p18_one() {
        least("v2,2;p3,5;i3,1;l0;", 3, 3);
        least("v6,6;p35,1;i35,0;l0;", 4, 35);
    }

    static void p18_two() {
        least("v2,2;p1,2;i1,0;i3,6;l0;", 3, 1, 3);
    }

    static void p18_three() {
        least("v6,6;p0,1;i0,0;p1,2;i1,0;p35,1;i35,6;l0;", 11, 0, 1, 35);
    }

    static void p18_four() {
        least("v2,2;i0,1;i1,1;i2,1;i3,1;l0;");
        // the last of them, 12, may stay
        least("v2,2;i0,1;i1,1;i2,1;i3,1;l11;");
        least("v2,2;i0,1;i1,1;i2,1;i3,1;l12;", 0, 0, 1, 2);
    }

    static void p18_theLeastAheadOfTheFewest() {
        // CELL 0 alone for 4, or CELLS 1 and 6 for nothing
        least("v6,6;p0,1;i0,0;i1,1;i6,1;l32;", 0, 1, 6);
        least("v6,6;p0,1;i0,0;i1,1;i6,1;l19;", 4, 0, 1);
    }

    static void p18_theFewestAheadOfTheFirst() {
        // all of them for nothing: CELL 35 alone, or CELLS 0, 1, 2
        least("v6,6;e35;i0,1;i1,1;i2,1;i35,1;l20;", 0, 35);
        least("v6,6;e35;i0,1;i1,1;i2,1;i35,1;l12;", 0, 35);
        least("v6,6;e35;i0,1;i1,1;i2,1;i35,1;l11;", 0, 0, 35);
    }

    static void p18_theFirstByTheLowestThenTheNext() {
        due("THE FINE", Edges.laid(FOUR_WALLS).fine(0), 56);
        least(FOUR_WALLS + "l56;", 0);
        least(FOUR_WALLS + "l55;", 0, 0);
        least(FOUR_WALLS + "l48;", 0, 0);
        least(FOUR_WALLS + "l47;", 0, 1);
        least(FOUR_WALLS + "l36;", 0, 3);
        least(FOUR_WALLS + "l35;", 0, 0, 2);
        // CELLS 0, 3 are as much as 1, 2
        least(FOUR_WALLS + "l28;", 0, 0, 3);
        least(FOUR_WALLS + "l27;", 0, 1, 3);
        least(FOUR_WALLS + "l20;", 0, 2, 3);
        least(FOUR_WALLS + "l19;", 0, 0, 1, 3);
        least(FOUR_WALLS + "l16;", 0, 0, 1, 3);
        least(FOUR_WALLS + "l15;", 0, 0, 2, 3);
        least(FOUR_WALLS + "l8;", 0, 1, 2, 3);
        least(FOUR_WALLS + "l7;");
    }

    static void p18_theLastThreeCells() {
        least("v6,6;e35;i33,1;i34,1;i35,1;l0;", 0, 33, 34, 35);
    }

    static void p18_whatIsAsItShouldBeCanNotBe() {
        // SMOKE blown out of the VIEW, and nothing else is WRONG
        least("v2,2;p0,4;w1;l0;");
        least("v2,2;p0,4;w1;l10;", 0);
    }

    static void p18_whatIsNotSeenWrongCanBe() {
        least("v2,2;w2;i0,4;l0;", 0, 0);
    }

    static void p18_smokeFromEachSide() {
        // it is seen in CELL 4, and to take it away costs nothing
        least("v3,3;e4;w0;i4,4;l0;", 0, 4);
        least("v3,3;e4;w1;i7,4;l0;", 0, 7);
        least("v3,3;e4;w2;i3,4;l0;", 0, 3);
        least("v3,3;e4;w3;i5,4;l0;", 0, 5);
        // the same, from the ends of the rows
        least("v2,2;e0;w3;i1,4;l0;", 0, 1);
        least("v2,2;e1;w2;i0,4;l0;", 0, 0);
        least("v2,2;e1;w1;i3,4;l0;", 0, 3);
    }

    static void p18_onceAndAgain() {
        PaintedTown town = Edges.laid("v2,2;i0,1;l0;");
        chosen("one WALL", town, false, 0, 0);
        town.put(1, 1);
        town.put(2, 1);
        chosen("three WALLS", town, false, 0, 0, 1, 2);
        town.put(3, 1);
        chosen("four WALLS", town, false);
        chosen("four WALLS", town, true);
        town.put(2, 0);
        chosen("three WALLS", town, true, 3, 0, 1, 3);
        town.lay();
        chosen("one WALL", town, true, 1, 0);
        town.mend(0);
        chosen("none", town, true, 0);
        chosen("none", town, false, 0);
    }

    static void p18_behindCanvas() {
        PaintedTown town = Edges.laid("v2,2;i2,5;e0;l0;");
        town.pass(3);
        town.canvas(2);
        chosen("a TREE behind CANVAS", town, false, 0, 2);
        town.canvas(0);
        chosen("both hidden", town, false, 0);
    }

    static void p18_aTreeIs0YearsOld() {
        // CELL 2 SHOULD be a TREE; MENDED, it is young, and nothing is seen above it
        least("v2,2;p2,5;i2,1;e2;l0;", 3, 2);
        PaintedTown town = Edges.laid("v2,2;p2,5;p0,5;i0,0;i2,1;e0;l0;");
        town.pass(20);
        chosen("the one below is too young for both", town, false, 6, 0, 2);
    }

    static void p18_itPassesNow() {
        PaintedTown town = Edges.laid(GROWING + "l14;");
        town.pass(2);
        chosen("though not in a YEAR", town, false, 0);
    }

    // ---- 19

    static void p19_noSuchCell() {
        for (int k : Edges.FAR) Edges.refused("canvases(" + k + ")", BAD, town -> town.canvases(k));
        Edges.refused("canvases(-1)", BAD, town -> town.canvases(-1));
        Edges.refused("canvases(4)", BAD, town -> town.canvases(4));
    }

    static void p19_badIsAheadOfNone() {
        PaintedTown none = Edges.laid("v2,2;i0,1;i1,1;i2,1;i3,1;l0;");
        due("canvases(0)", none.canvases(0), NONE);
        due("canvases(3)", none.canvases(3), NONE);
        due("canvases(4)", none.canvases(4), BAD);
        due("canvases(-1)", none.canvases(-1), BAD);
    }

    static void p19_changesNothing() {
        for (int k = 0; k <= 3; k++) {
            int asked = k;
            Edges.asked("canvases(" + k + ")", town -> town.canvases(asked));
        }
    }

    static void p19_noneIsNeeded() {
        canvases("v2,2;l0;", 0);
        canvases("v2,2;i0,1;l20;", 0);
        canvases("v2,2;i0,1;l19;", 1, 0);
    }

    static void p19_oneTwoThree() {
        canvases("v6,6;i35,1;l0;", 1, 35);
        canvases("v6,6;i0,1;i35,1;l0;", 2, 0, 35);
        canvases("v6,6;i0,1;i1,1;i35,1;l0;", 3, 0, 1, 35);
        canvases("v6,6;e35;i33,1;i34,1;i35,1;l0;", 3, 33, 34, 35);
    }

    static void p19_four() {
        canvases("v2,2;i0,1;i1,1;i2,1;i3,1;l0;");
        canvases("v2,2;i0,1;i1,1;i2,1;i3,1;l11;");
        canvases("v2,2;i0,1;i1,1;i2,1;i3,1;l12;", 3, 0, 1, 2);
    }

    static void p19_theFewest() {
        canvases("v6,6;e35;i0,1;i1,1;i2,1;i35,1;l20;", 1, 35);
        canvases("v6,6;e35;i0,1;i1,1;i2,1;i35,1;l11;", 2, 0, 35);
    }

    static void p19_theFirst() {
        canvases(FOUR_WALLS + "l56;", 0);
        canvases(FOUR_WALLS + "l48;", 1, 0);
        canvases(FOUR_WALLS + "l47;", 1, 1);
        canvases(FOUR_WALLS + "l36;", 1, 3);
        canvases(FOUR_WALLS + "l35;", 2, 0, 2);
        canvases(FOUR_WALLS + "l28;", 2, 0, 3);
        canvases(FOUR_WALLS + "l27;", 2, 1, 3);
        canvases(FOUR_WALLS + "l19;", 3, 0, 1, 3);
        canvases(FOUR_WALLS + "l15;", 3, 0, 2, 3);
        canvases(FOUR_WALLS + "l8;", 3, 1, 2, 3);
        canvases(FOUR_WALLS + "l7;");
    }

    static void p19_thoseThatHaveNone() {
        PaintedTown town = Edges.laid("v2,2;i0,1;i1,1;i2,1;i3,1;l0;");
        town.canvas(2);
        chosen("one hangs", town, true, 3, 0, 1, 3);
        town.canvas(0);
        chosen("two hang", town, true, 2, 1, 3);
        town.canvas(3);
        chosen("three hang", town, true, 1, 1);
        town.canvas(1);
        chosen("all hang", town, true, 0);
        due("all are as they SHOULD be", town.least(0), 0);
    }

    static void p19_whatCanNotBeMended() {
        canvases("v2,2;p0,4;w1;l0;", 1, 0);
    }

    static void p19_whatItWouldCostIsNothing() {
        // CELL 0 costs 4 to be MENDED, 1 and 6 nothing: one CANVAS is fewer than two
        canvases("v6,6;p0,1;i0,0;i1,1;i6,1;l32;", 1, 0);
    }

    // ---- 20

    static void p20_theFirstAndTheLastRow() {
        int[] sides = {2, 3, 4, 5, 6};
        for (int rows : sides) {
            for (int columns : sides) {
                PaintedTown town = Edges.laid("v" + rows + "," + columns + ";");
                due("the row ahead", town.never(-1), BAD);
                due("the first", town.never(0), 0);
                due("the last", town.never(rows - 1), 0);
                due("the row behind", town.never(rows), BAD);
            }
        }
    }

    static void p20_noSuchRow() {
        for (int row : Edges.FAR) Edges.refused("never(" + row + ")", BAD, town -> town.never(row));
        int[] others = {-1, 2, 3, 4, 5, 6};
        for (int row : others) Edges.refused("never(" + row + ")", BAD, town -> town.never(row));
    }

    static void p20_changesNothing() {
        Edges.asked("never(0)", town -> town.never(0));
        Edges.asked("never(1)", town -> town.never(1));
    }

    static void p20_noneAndAllOfARow() {
        // SMOKE SHOULD be all along the last row: with the WIND up it is seen in the row above
        PaintedTown town = Edges.laid("v6,6;p30,4;p31,4;p32,4;p33,4;p34,4;p35,4;w1;");
        int[] rows = {0, 0, 0, 0, 63, 63};
        for (int row = 0; row < 6; row++) due("never(" + row + ")", town.never(row), rows[row]);
        town.wind(0);
        for (int row = 0; row < 6; row++) due("never(" + row + ")", town.never(row), 0);
    }

    static void p20_theFirstAndTheLastColumn() {
        PaintedTown town = Edges.laid("v2,6;p0,4;w3;");
        due("SMOKE out of the first", town.never(0), 1);
        town = Edges.laid("v2,6;p5,4;w2;");
        due("SMOKE out of the last", town.never(0), 32);
        due("not into the next row", town.never(1), 0);
        due("narrow", Edges.laid("v2,2;p1,4;w2;").never(0), 2);
    }

    static void p20_whatIsCounts() {
        PaintedTown town = Edges.laid("v2,2;i0,1;i1,4;i2,5;i3,2;");
        town.pass(20);
        due("all can be made so", town.never(0), 0);
        due("all can be made so", town.never(1), 0);
        due("all are WRONG", town.fine(2), 4);
    }

    static void p20_aTreeAsOldAsTheOneThatIs() {
        PaintedTown town = Edges.laid(GROWING);
        town.pass(2);
        due("2 YEARS", town.never(0), 0);
        town.pass(1);
        due("3 YEARS", town.never(0), 1);
        town.lop();
        due("lopped", town.never(0), 0);
    }

    static void p20_noTreeIs() {
        PaintedTown town = Edges.laid("v2,2;p2,5;i2,1;");
        town.pass(20);
        due("0 YEARS", town.never(0), 0);
    }

    static void p20_aTreeThatShouldBeAboveATree() {
        PaintedTown town = Edges.laid("v2,2;p2,5;p0,4;");
        town.pass(3);
        due("before the SMOKE", town.never(0), 1);
        town = Edges.laid("v2,2;p2,5;p0,1;");
        town.pass(3);
        due("behind the WALL", town.never(0), 0);
    }

    static void p20_canvasAsItHangs() {
        PaintedTown town = Edges.laid(GROWING);
        town.pass(3);
        town.canvas(2);
        due("before the TREE", town.never(0), 1);
        town.canvas(0);
        due("before the SKY", town.never(0), 0);
    }

    static void p20_theWindAsItGoes() {
        String text = "v3,3;p4,4;";
        int[][] rows = {{0, 0, 0}, {2, 2, 0}, {0, 6, 0}, {0, 3, 0}};
        for (int d = 0; d < 4; d++) {
            PaintedTown town = Edges.laid(text + "w" + d + ";");
            for (int row = 0; row < 3; row++) due("WIND " + d + " never(" + row + ")", town.never(row), rows[d][row]);
        }
    }
}
