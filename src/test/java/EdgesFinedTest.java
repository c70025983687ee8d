/** Boundary cases of promises 21 to 25: fined, forget, moved, frames, copy. */
public final class EdgesFinedTest {
    private static final int BAD = Edges.BAD, FULL = Edges.FULL, NONE = Edges.NONE;

    public static void main(String[] args) {
        Edges.run(EdgesFinedTest.class, 21, 25);
    }

    private static void due(String call, long got, long want) {
        Edges.due(call, got, want);
    }

    // ---- 21

    static void p21_theFirstAndTheLastWind() {
        PaintedTown town = Edges.laid("v2,2;");
        due("fined(0, 5)", town.fined(0, 5), 1);
        due("fined(3, 5)", town.fined(3, 5), 2);
    }

    static void p21_noSuchWind() {
        for (int d : Edges.FAR) Edges.refusedBy("fined(" + d + ", 1)", Edges.some(), Edges.some(), BAD, town -> town.fined(d, 1));
        Edges.refused("fined(-1, 0)", BAD, town -> town.fined(-1, 0));
        Edges.refused("fined(4, 0)", BAD, town -> town.fined(4, 0));
    }

    static void p21_theLeastAndTheMost() {
        PaintedTown town = Edges.laid("v2,2;");
        due("fined(0, 0)", town.fined(0, 0), 1);
        due("fined(0, 999)", town.fined(0, 999), 2);
    }

    static void p21_noSuchFine() {
        for (int f : Edges.FAR) Edges.refusedBy("fined(0, " + f + ")", Edges.some(), Edges.some(), BAD, town -> town.fined(0, f));
        Edges.refused("fined(0, -1)", BAD, town -> town.fined(0, -1));
        Edges.refused("fined(0, 1000)", BAD, town -> town.fined(0, 1000));
        Edges.refused("fined(4, 1000)", BAD, town -> town.fined(4, 1000));
    }

    static void p21_the6thAndThe7th() {
        PaintedTown town = Edges.laid("v2,2;");
        for (int i = 1; i <= 6; i++) due("the " + i + "th", town.fined(i % 4, 9 * i), i);
        due("the 7th", town.fined(0, 0), FULL);
        due("count(7)", town.count(7), 6);
    }

    static void p21_fullChangesNothing() {
        Edges.refusedBy("a 7th", Edges.full(), Edges.full(), FULL, town -> town.fined(0, 0));
    }

    static void p21_badIsAheadOfFull() {
        PaintedTown town = Edges.full();
        due("fined(4, 0)", town.fined(4, 0), BAD);
        due("fined(0, 1000)", town.fined(0, 1000), BAD);
        due("fined(3, 999)", town.fined(3, 999), FULL);
    }

    static void p21_theSameAgainIsOneMore() {
        PaintedTown town = Edges.laid("v2,2;");
        due("fined(1, 1)", town.fined(1, 1), 1);
        due("fined(1, 1) again", town.fined(1, 1), 2);
    }

    static void p21_nothingElseChanges() {
        PaintedTown town = Edges.laid("v2,2;i0,4;w2;");
        String before = Check.look(town).substring(15);
        town.fined(2, town.fine(0));
        due("the WIND", town.count(4), 2);
        due("nothing can be UNDONE", town.count(8), 0);
        town.forget();
        Edges.due("the town", Check.look(town).substring(15), before);
    }

    // ---- 22

    static void p22_ofNothing() {
        PaintedTown town = Edges.laid("v2,2;");
        due("forget()", town.forget(), 0);
        due("count(7)", town.count(7), 0);
    }

    static void p22_ofEach() {
        for (int n = 1; n <= 6; n++) {
            PaintedTown town = Edges.laid("v2,2;");
            for (int i = 0; i < n; i++) town.fined(0, 1);
            due("forget() of " + n, town.forget(), n);
            due("forget() again", town.forget(), 0);
            due("all is so", town.frames(0), 4);
        }
    }

    static void p22_then6MoreCanBe() {
        PaintedTown town = Edges.full();
        town.forget();
        for (int i = 1; i <= 6; i++) due("the " + i + "th", town.fined(0, 1), i);
        due("the 7th", town.fined(0, 1), FULL);
    }

    static void p22_nothingElseChanges() {
        PaintedTown one = Edges.full(), other = Edges.full();
        one.forget();
        for (int d = 0; d < 4; d++) one.fined(d, one.by(d));
        one.fined(0, one.by(0));
        one.fined(2, one.by(2));
        Edges.due("but what was FINED", Edges.trace(one), Edges.trace(other));
    }

    // ---- 23

    private static void moved(String of, PaintedTown town, int count, int first) {
        due("moved(0) of " + of, town.moved(0), count);
        due("moved(1) of " + of, town.moved(1), first);
    }

    static void p23_noSuchQuestion() {
        for (int what : Edges.FAR) Edges.refused("moved(" + what + ")", BAD, town -> town.moved(what));
        Edges.refused("moved(-1)", BAD, town -> town.moved(-1));
        Edges.refused("moved(2)", BAD, town -> town.moved(2));
    }

    static void p23_changesNothing() {
        Edges.asked("moved(0)", town -> town.moved(0));
        Edges.asked("moved(1)", town -> town.moved(1));
    }

    static void p23_nothingFined() {
        moved("all alike", Edges.laid("v6,6;"), 0, NONE);
        moved("one unlike", Edges.laid("v6,6;i35,1;"), 35, 35);
        moved("the first unlike", Edges.laid("v6,6;i0,1;"), 35, 1);
        moved("all unlike", Edges.laid("v2,2;i1,1;i2,2;i3,3;"), 6, 1);
        moved("two and two", Edges.laid("v2,2;i2,1;i3,1;"), 4, 2);
    }

    static void p23_none() {
        PaintedTown town = Edges.laid("v2,2;i3,1;");
        town.fined(0, 999);
        moved("999", town, 0, NONE);
    }

    static void p23_theFirstTwo() {
        PaintedTown town = Edges.laid("v6,6;p0,1;i0,0;i1,1;");
        town.fined(0, 0);
        moved("0 and 1", town, 1, 1);
    }

    static void p23_theLastTwo() {
        PaintedTown town = Edges.laid("v6,6;e35;p34,1;i34,0;i35,1;");
        town.fined(0, 0);
        moved("34 and 35", town, 1, 3435);
    }

    static void p23_theFirstAndTheLast() {
        PaintedTown town = Edges.laid("v6,6;p0,1;i0,0;i35,1;");
        town.fined(0, 0);
        moved("0 and 35", town, 1, 35);
    }

    static void p23_byTheLowerThenTheHigher() {
        // a WALL in CELL 4, as far as CELLS 2, 6 and 8 from the EYE: all for 12
        PaintedTown town = Edges.laid("v3,3;e4;i4,1;");
        town.fined(0, 12);
        moved("the corners", town, 4, 4);
        town.forget();
        town.fined(0, 16);
        moved("the sides", town, 4, 104);
    }

    static void p23_likeThingsAreNotMoved() {
        PaintedTown town = Edges.laid("v2,2;i2,1;i3,1;");
        town.fined(0, town.fine(0));
        // 16 and 12 now: CELLS 2 and 3, exchanged, would leave that too, but ARE alike; 2 for 1 does
        moved("as it is", town, 1, 102);
    }

    static void p23_treesAsOldAsTheyAre() {
        PaintedTown town = Edges.laid("v3,2;p4,5;i5,1;e0;");
        town.pass(3);
        // the TREE of CELL 4 in CELL 5: seen there (6), above it in CELL 3 (9), the WALL in CELL 4 (12)
        town.fined(0, 6 + 9 + 12);
        moved("an old TREE", town, 1, 405);
        town.lop();
        moved("a young TREE", town, 0, NONE);
        town.forget();
        town.fined(0, 6 + 12);
        moved("a young TREE", town, 1, 405);
    }

    static void p23_allThatWasFined() {
        // the WALL of CELL 3 moved to CELL 0, where it SHOULD be: 0 with each WIND
        PaintedTown town = Edges.laid("v2,2;p0,1;i0,0;i3,1;");
        for (int i = 0; i < 5; i++) town.fined(i % 4, 0);
        moved("five that are so", town, 1, 3);
        town.fined(1, 0);
        moved("six that are so", town, 1, 3);
        for (int odd = 0; odd < 6; odd++) {
            town.forget();
            for (int i = 0; i < 6; i++) town.fined(i % 4, i == odd ? 1 : 0);
            moved("but that of place " + odd, town, 0, NONE);
        }
    }

    static void p23_withTheWindThatWasTold() {
        // SMOKE, moved from CELL 0 to CELL 2: with the WIND right it is seen in CELL 3
        PaintedTown town = Edges.laid("v2,2;w1;i0,4;e3;");
        town.fined(2, 10);
        moved("the WIND right", town, 1, 2);
        town.forget();
        town.fined(1, 10);
        moved("the WIND up", town, 0, NONE);
        due("the WIND as before", town.count(4), 1);
    }

    // ---- 24

    private static void frames(String of, PaintedTown town, int count, int lowest) {
        due("frames(0) of " + of, town.frames(0), count);
        due("frames(1) of " + of, town.frames(1), lowest);
    }

    static void p24_noSuchQuestion() {
        for (int what : Edges.FAR) Edges.refused("frames(" + what + ")", BAD, town -> town.frames(what));
        Edges.refused("frames(-1)", BAD, town -> town.frames(-1));
        Edges.refused("frames(2)", BAD, town -> town.frames(2));
    }

    static void p24_changesNothing() {
        Edges.asked("frames(0)", town -> town.frames(0));
        Edges.asked("frames(1)", town -> town.frames(1));
    }

    static void p24_nothingFined() {
        frames("4 CELLS", Edges.laid("v2,2;"), 4, 0);
        frames("20 CELLS", Edges.laid("l1;"), 20, 0);
        frames("36 CELLS", Edges.laid("v6,6;e35;"), 36, 0);
    }

    static void p24_none() {
        PaintedTown town = Edges.laid("v2,2;");
        town.fined(0, 1);
        frames("1", town, 0, NONE);
    }

    static void p24_theFirstCellAlone() {
        PaintedTown town = Edges.laid("v6,6;i0,1;e35;");
        town.fined(0, 20);
        frames("20", town, 1, 0);
    }

    static void p24_theLastCellAlone() {
        PaintedTown town = Edges.laid("v6,6;i35,1;e0;");
        town.fined(0, 20);
        frames("20", town, 1, 35);
        due("the EYE as before", town.count(5), 0);
    }

    static void p24_theLowestOfSome() {
        PaintedTown town = Edges.laid("v6,6;i35,1;");
        town.fined(0, 16);
        frames("16", town, 2, 29);
        town.forget();
        town.fined(0, 12);
        frames("12", town, 3, 23);
        town.forget();
        town.fined(0, 4);
        frames("4", town, 36 - 1 - 2 - 3 - 4, 0);
    }

    static void p24_allThatWasFined() {
        PaintedTown town = Edges.laid("v2,2;i3,1;");
        for (int i = 0; i < 6; i++) town.fined(i % 4, 20);
        frames("six that are so", town, 1, 3);
        for (int odd = 0; odd < 6; odd++) {
            town.forget();
            for (int i = 0; i < 6; i++) town.fined(i % 4, i == odd ? 16 : 20);
            frames("but that of place " + odd, town, 0, NONE);
        }
    }

    // ---- 25

    static void p25_theFirstAndTheLastCell() {
        int[] cells = {4, 36, 20};
        String[] views = {"v2,2;", "v6,6;", "l1;"};
        for (int i = 0; i < cells.length; i++) {
            PaintedTown town = Edges.laid(views[i]);
            due("copy(0)", town.copy(0), 255);
            due("copy of the last", town.copy(cells[i] - 1), 255);
            due("copy behind the last", town.copy(cells[i]), BAD);
        }
    }

    static void p25_noSuchCell() {
        for (int x : Edges.FAR) Edges.refused("copy(" + x + ")", BAD, town -> town.copy(x));
        int[] others = {-1, 4, 5, 19, 20, 35, 36, 99};
        for (int x : others) Edges.refused("copy(" + x + ")", BAD, town -> town.copy(x));
    }

    static void p25_changesNothing() {
        for (int x = 0; x < 4; x++) {
            int asked = x;
            Edges.asked("copy(" + x + ")", town -> town.copy(asked));
        }
    }

    static void p25_eachThingAlone() {
        for (int k = 0; k < 8; k++) {
            // SMOKE IS and goes nowhere, so that it is seen, as each other thing is
            PaintedTown town = Edges.laid("v2,2;i3," + k + ";p1,1;");
            town.fined(0, 0);
            due("copy of " + k, town.copy(3), 1 << k);
            due("SHOULD stays", town.cell(3, 0), 0);
        }
    }

    static void p25_none() {
        PaintedTown town = Edges.laid("v2,2;i0,1;");
        town.fined(0, 1);
        for (int x = 0; x < 4; x++) due("copy(" + x + ")", town.copy(x), 0);
    }

    static void p25_asItShouldBeNow() {
        PaintedTown town = Edges.laid("v2,2;p0,6;e3;");
        town.fined(0, town.fine(0));
        due("a SWALLOW", town.copy(0), 64);
    }

    static void p25_severalThingsOfOneSize() {
        // SKY is seen in CELL 3, for 20 a WALL; 15: PERSON, TREE; 10: DOG, SMOKE, WINDOW; 5: SWALLOW
        int[] sums = {0, 5, 10, 15, 20, 25}, bits = {1, 64, 8 + 16 + 128, 4 + 32, 2, 0};
        for (int i = 0; i < sums.length; i++) {
            PaintedTown town = Edges.laid("v2,2;e3;");
            town.fined(0, sums[i]);
            due("copy(3) for " + sums[i], town.copy(3), bits[i]);
        }
    }

    static void p25_behindCanvas() {
        PaintedTown town = Edges.laid("v2,2;i3,1;e3;");
        town.canvas(3);
        town.fined(0, 0);
        due("any", town.copy(3), 255);
        town.fined(1, 1);
        due("none", town.copy(3), 0);
    }

    static void p25_allThatWasFined() {
        PaintedTown town = Edges.laid("v2,2;i3,7;");
        for (int i = 0; i < 6; i++) town.fined(i % 4, 0);
        due("six that are so", town.copy(3), 128);
        for (int odd = 0; odd < 6; odd++) {
            town.forget();
            for (int i = 0; i < 6; i++) town.fined(i % 4, i == odd ? 6 : 0);
            due("but that of place " + odd, town.copy(3), 0);
        }
    }
}
