/** Promises 16 to 20: BEHIND, UNTIL, LEAST, CANVASES, NEVER. */
public final class ComesTest {
    private static final int BAD = Check.BAD, NONE = Check.NONE;
    private static final int HUGE = Integer.MAX_VALUE, TINY = Integer.MIN_VALUE;
    private static final Check CHECK = new Check();

    private static void due(String call, long got, long want) {
        CHECK.due(call, got, want);
    }

    public static void main(String[] args) {
        promise16();
        promise17();
        promise18();
        promise18Ties();
        promise18Seen();
        promise19();
        promise20();
        CHECK.end();
    }

    private static void promise16() {
        // a TREE below the EYE: grown, it is seen in the SKY before the EYE for 15
        PaintedTown town = CHECK.laid("v2,2;p2,5;e0;l14;");
        String before = Check.look(town);
        int[] years = {-1, 21, 40, HUGE, TINY};
        for (int n : years) {
            due("behind(" + n + ", 0)", town.behind(n, 0), BAD);
            due("behind(" + n + ", 2)", town.behind(n, 2), BAD);
        }
        int[] whats = {-1, 2, HUGE, TINY};
        for (int what : whats) due("behind(0, " + what + ")", town.behind(0, what), BAD);
        for (int n = 0; n <= 20; n++) {
            due("behind(" + n + ", 0)", town.behind(n, 0), n < 3 ? 0 : 15);
            due("behind(" + n + ", 1)", town.behind(n, 1), n < 3 ? 1 : 0);
        }
        CHECK.same("behind", town, before);
        town.pass(2);
        due("behind(0, 0) at 2", town.behind(0, 0), 0);
        due("behind(1, 0) at 2", town.behind(1, 0), 15);
        due("L 15 passes", CHECK.laid("v2,2;p2,5;e0;l15;").behind(3, 1), 1);
    }

    private static void promise17() {
        PaintedTown town = CHECK.laid("v2,2;p2,5;e0;l14;");
        String before = Check.look(town);
        due("until 3", town.until(), 3);
        CHECK.same("until", town, before);
        town.pass(2);
        due("until 1", town.until(), 1);
        town.pass(1);
        due("until 0", town.until(), 0);
        town.lop();
        due("until lopped", town.until(), 3);
        due("never so", CHECK.laid("v2,2;p2,5;e0;l15;").until(), NONE);
        // a TREE that SHOULD be seen above: it does not PASS at first, but later
        due("at once", CHECK.laid("v2,2;p2,5;p0,5;i0,0;e0;l14;").until(), 0);
        due("nothing there", CHECK.laid("v2,2;l0;").until(), NONE);
    }

    private static void sets(PaintedTown town, boolean canvas, int... want) {
        String call = canvas ? "canvases" : "least";
        for (int k = 0; k <= 3; k++) {
            int got = canvas ? town.canvases(k) : town.least(k);
            due(call + "(" + k + ")", got, k < want.length ? want[k] : NONE);
        }
    }

    private static void promise18() {
        PaintedTown town = CHECK.laid("v6,6;p0,3;i0,0;p1,1;i1,0;p6,2;i6,0;e0;l0;");
        String before = Check.look(town);
        int[] ks = {-1, 4, HUGE, TINY};
        for (int k : ks) due("least(" + k + ")", town.least(k), BAD);
        // DOG, WALL, PERSON before the EYE: 10, 16, 12 of 38
        sets(town, false, 9, 0, 1, 6);
        CHECK.same("least", town, before);
        sets(CHECK.laid("v6,6;p0,3;i0,0;p1,1;i1,0;p6,2;i6,0;e0;l38;"), false, 0);
        sets(CHECK.laid("v6,6;p0,3;i0,0;p1,1;i1,0;p6,2;i6,0;e0;l28;"), false, 2, 0);
        sets(CHECK.laid("v6,6;p0,3;i0,0;p1,1;i1,0;p6,2;i6,0;e0;l27;"), false, 3, 6);
        sets(CHECK.laid("v6,6;p0,3;i0,0;p1,1;i1,0;p6,2;i6,0;e0;l22;"), false, 4, 1);
        sets(CHECK.laid("v6,6;p0,3;i0,0;p1,1;i1,0;p6,2;i6,0;e0;l16;"), false, 5, 0, 6);
        sets(CHECK.laid("v6,6;p0,3;i0,0;p1,1;i1,0;p6,2;i6,0;e0;l15;"), false, 6, 0, 1);
        // four WRONG ones: three do not do
        PaintedTown four = CHECK.laid("v2,2;i0,1;i1,1;i2,1;i3,1;l0;");
        for (int k = 0; k <= 3; k++) due("least of four " + k, four.least(k), NONE);
        for (int k : ks) due("least of four " + k, four.least(k), BAD);
    }

    private static void promise18Ties() {
        // things that SHOULD not be: to take any away costs 0
        sets(CHECK.laid("v6,6;e0;i1,1;i6,1;i2,1;l28;"), false, 0, 1);
        sets(CHECK.laid("v6,6;e0;i1,1;i6,1;i2,1;l27;"), false, 0, 1, 2);
        sets(CHECK.laid("v6,6;e0;i1,1;i6,1;i2,1;l15;"), false, 0, 1, 6);
        // one set of fewer CELLS behind one of more in the order
        sets(CHECK.laid("v6,6;e35;i0,2;i1,2;i2,2;i35,1;l3;"), false, 0, 35);
        // two DOGS cost as much as a WALL: the WALL alone is of fewer CELLS
        sets(CHECK.laid("v6,6;e14;p13,3;i13,0;p14,1;i14,0;p15,3;i15,0;l20;"), false, 4, 14);
        sets(CHECK.laid("v6,6;e14;p12,3;i12,0;p13,3;i13,0;p20,1;i20,0;l16;"), false, 4, 20);
    }

    private static void promise18Seen() {
        // what is not WRONG can be MENDED: SMOKE that blows out of an unpainted CELL, a TREE below
        sets(CHECK.laid("v2,2;w2;e1;i0,4;l0;"), false, 0, 0);
        sets(CHECK.laid("v2,2;w3;e0;i1,4;l0;"), false, 0, 1);
        sets(CHECK.laid("v2,2;w1;e0;i2,4;l0;"), false, 0, 2);
        PaintedTown later = CHECK.laid("v2,2;l0;");
        sets(later, false, 0);
        for (int x = 0; x < 4; x++) later.put(x, 1);
        sets(later, false, NONE);
        sets(later, true, NONE);
        later.put(0, 0);
        sets(later, false, 0, 1, 2, 3);
        sets(later, true, 3, 1, 2, 3);
        PaintedTown town = CHECK.laid("v3,2;p5,5;e1;i3,5;l0;");
        town.pass(3);
        // the TREE in CELL 3 is WRONG, and seen in CELL 1; the one in 5, as it SHOULD be, is seen in CELL 3
        due("both WRONG", town.fine(2), 2);
        sets(town, false, NONE);
        town.put(5, 0);
        sets(town, false, 3, 3, 5);
        town = CHECK.laid("v2,2;p2,5;e1;p0,5;i0,0;l0;");
        due("a young TREE SHOULD be", town.least(1), 0);
        town.pass(3);
        sets(town, false, 0);
        // to be MENDED lops: the TREE is taken for a WALL and would grow again at 0 YEARS
        town = CHECK.laid("v2,2;i2,5;p2,1;i2,5;e0;l0;");
        town.pass(3);
        due("a grown TREE for a WALL", town.fine(0), 15 + 16);
        sets(town, false, 4, 2);
        town.canvas(2);
        due("behind CANVAS", town.fine(0), 15);
        sets(town, false, 4, 2);
        // a CELL that is as it SHOULD be, but is not seen so, can't be MENDED
        sets(CHECK.laid("v2,2;p0,4;w1;l0;"), false, NONE);
    }

    private static void promise19() {
        PaintedTown town = CHECK.laid("v6,6;p0,3;i0,0;p1,1;i1,0;p6,2;i6,0;e0;l0;");
        String before = Check.look(town);
        int[] ks = {-1, 4, HUGE, TINY};
        for (int k : ks) due("canvases(" + k + ")", town.canvases(k), BAD);
        sets(town, true, 3, 0, 1, 6);
        CHECK.same("canvases", town, before);
        sets(CHECK.laid("v6,6;p0,3;i0,0;p1,1;i1,0;p6,2;i6,0;e0;l38;"), true, 0);
        sets(CHECK.laid("v6,6;p0,3;i0,0;p1,1;i1,0;p6,2;i6,0;e0;l28;"), true, 1, 0);
        sets(CHECK.laid("v6,6;p0,3;i0,0;p1,1;i1,0;p6,2;i6,0;e0;l27;"), true, 1, 1);
        sets(CHECK.laid("v6,6;p0,3;i0,0;p1,1;i1,0;p6,2;i6,0;e0;l16;"), true, 2, 0, 1);
        sets(CHECK.laid("v6,6;p0,3;i0,0;p1,1;i1,0;p6,2;i6,0;e0;l12;"), true, 2, 0, 1);
        sets(CHECK.laid("v6,6;p0,3;i0,0;p1,1;i1,0;p6,2;i6,0;e0;l11;"), true, 2, 1, 6);
        sets(CHECK.laid("v6,6;p0,3;i0,0;p1,1;i1,0;p6,2;i6,0;e0;l10;"), true, 2, 1, 6);
        PaintedTown four = CHECK.laid("v2,2;i0,1;i1,1;i2,1;i3,1;l0;");
        for (int k = 0; k <= 3; k++) due("canvases of four " + k, four.canvases(k), NONE);
        for (int k : ks) due("canvases of four " + k, four.canvases(k), BAD);
        four.canvas(1);
        sets(four, true, 3, 0, 2, 3);
        // what can't be MENDED can be hidden: SMOKE blown away
        sets(CHECK.laid("v2,2;p0,4;w1;l0;"), true, 1, 0);
        // SMOKE from behind CANVAS is still seen where it goes
        sets(CHECK.laid("v2,2;w2;e1;i0,4;l0;"), true, 1, 1);
        // SMALL ones: of 1, 1, 1 the third part is 1, of two 0
        sets(CHECK.laid("v6,6;e0;i35,6;i34,6;i33,6;l0;"), true, 1, 33);
    }

    private static void never(String text, int... want) {
        PaintedTown town = CHECK.laid(text);
        for (int row = 0; row < want.length; row++) due("never(" + row + ") of " + text, town.never(row), want[row]);
        due("never of no row", town.never(want.length), BAD);
    }

    private static void promise20() {
        PaintedTown town = CHECK.laid("v3,4;");
        int[] rows = {-1, 3, 4, 6, HUGE, TINY};
        for (int row : rows) due("never(" + row + ")", town.never(row), BAD);
        due("never of BAD in a wide VIEW", CHECK.laid("v2,6;").never(2), BAD);
        never("v3,4;i0,1;i5,4;i11,5;", 0, 0, 0);
        never("v3,4;p5,4;i5,0;w0;", 0, 0, 0);
        never("v3,4;p5,4;i5,0;w1;", 2, 2, 0);
        never("v3,4;p5,4;i5,0;w2;", 0, 6, 0);
        never("v3,4;p5,4;i5,0;w3;", 0, 3, 0);
        never("v3,4;p7,4;i5,0;w2;", 0, 8, 0);
        never("v2,6;p5,4;w2;", 32, 0);
        town = CHECK.laid("v3,2;p2,5;p5,5;i5,0;w0;");
        due("a young TREE", town.never(0), 0);
        town.pass(3);
        String before = Check.look(town);
        due("a grown TREE", town.never(0), 1);
        due("a TREE that is not there yet", town.never(1), 0);
        due("the last row", town.never(2), 0);
        CHECK.same("never", town, before);
        town.canvas(0);
        due("CANVAS as it hangs", town.never(0), 0);
        town.canvas(0);
        town.put(2, 1);
        due("no TREE is there", town.never(0), 0);
        town = CHECK.laid("v3,2;p4,1;i4,5;");
        town.pass(3);
        due("a TREE seen above", town.cell(2, 2), 5);
        due("a TREE that SHOULD not be", town.never(1), 0);
    }
}
