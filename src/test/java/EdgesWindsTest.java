import java.math.BigInteger;

/** Boundary cases of promises 26 to 31: by, chance, year, keep, back, count. */
public final class EdgesWindsTest {
    private static final int BAD = Edges.BAD, NO = Edges.NO, FULL = Edges.FULL;
    /** SMOKE at the left below the EYE: 8 with the WIND nowhere, 10 up, 6 right, 0 left. */
    private static final String SMOKING = "v3,3;i3,4;e0;w1;";

    public static void main(String[] args) {
        Edges.run(EdgesWindsTest.class, 26, 31);
    }

    private static void due(String call, long got, long want) {
        Edges.due(call, got, want);
    }

    // ---- 26

    static void p26_theFirstAndTheLast() {
        PaintedTown town = Edges.laid("v3,3;i4,4;e3;");
        int[] sums = {8, 6, 6, 10};
        for (int d = 0; d < 4; d++) due("by(" + d + ")", town.by(d), sums[d]);
    }

    static void p26_noSuchWind() {
        for (int d : Edges.FAR) Edges.refused("by(" + d + ")", BAD, town -> town.by(d));
        Edges.refused("by(-1)", BAD, town -> town.by(-1));
        Edges.refused("by(4)", BAD, town -> town.by(4));
    }

    static void p26_changesNothing() {
        for (int d = 0; d < 4; d++) {
            int asked = d;
            Edges.asked("by(" + d + ")", town -> town.by(asked));
        }
    }

    static void p26_asIfItWentSo() {
        for (int d = 0; d < 4; d++) {
            PaintedTown one = Edges.some(), other = Edges.some();
            other.wind(d);
            due("by(" + d + ")", one.by(d), other.fine(0));
            due("as it goes", other.by(d), other.fine(0));
        }
    }

    // ---- 27

    private static void chance(String text, int above, int below) {
        PaintedTown town = Edges.laid(SMOKING + text);
        due("chance(0) of " + text, town.chance(0), above);
        due("chance(1) of " + text, town.chance(1), below);
    }

    static void p27_noSuchPart() {
        for (int part : Edges.FAR) Edges.refused("chance(" + part + ")", BAD, town -> town.chance(part));
        Edges.refused("chance(-1)", BAD, town -> town.chance(-1));
        Edges.refused("chance(2)", BAD, town -> town.chance(2));
    }

    static void p27_changesNothing() {
        Edges.asked("chance(0)", town -> town.chance(0));
        Edges.asked("chance(1)", town -> town.chance(1));
    }

    static void p27_noDay() {
        chance("g10,0,0,0;l7;", 0, 1);
        chance("g1,2,7,0;l0;", 0, 1);
    }

    static void p27_allDays() {
        chance("g0,0,0,10;l0;", 1, 1);
        chance("g1,2,3,4;l10;", 1, 1);
    }

    static void p27_inLowestTerms() {
        int[] above = {0, 1, 1, 3, 2, 1, 3, 7, 4, 9, 1}, below = {1, 10, 5, 10, 5, 2, 5, 10, 5, 10, 1};
        for (int days = 0; days <= 10; days++) {
            // it PASSES with the WIND left alone
            chance("l0;g" + (10 - days) + ",0,0," + days + ";", above[days], below[days]);
        }
    }

    static void p27_noMoreThanL() {
        chance("l10;g1,2,3,4;", 1, 1);
        chance("l9;g1,2,3,4;", 4, 5);
        chance("l8;g1,2,3,4;", 4, 5);
        chance("l7;g1,2,3,4;", 7, 10);
        chance("l6;g1,2,3,4;", 7, 10);
        chance("l5;g1,2,3,4;", 2, 5);
    }

    static void p27_howTheWindGoesNowIsNothing() {
        for (int d = 0; d < 4; d++) {
            PaintedTown town = Edges.laid(SMOKING + "l7;g1,2,3,4;w" + d + ";");
            due("chance(0)", town.chance(0), 7);
            due("chance(1)", town.chance(1), 10);
        }
    }

    // ---- 28

    static void p28_noSuchStart() {
        for (int z : Edges.FAR) {
            if (z < 0 || z > 9999) Edges.refused("year(" + z + ", 1, 0)", BAD, town -> town.year(z, 1, 0));
        }
        Edges.refused("year(-1, 1, 0)", BAD, town -> town.year(-1, 1, 0));
        Edges.refused("year(10000, 1, 0)", BAD, town -> town.year(10000, 1, 0));
    }

    static void p28_noSuchNumber() {
        for (int n : Edges.FAR) Edges.refused("year(0, " + n + ", 0)", BAD, town -> town.year(0, n, 0));
        Edges.refused("year(0, 0, 0)", BAD, town -> town.year(0, 0, 0));
        Edges.refused("year(0, 41, 0)", BAD, town -> town.year(0, 41, 0));
        Edges.refused("year(0, -1, 1)", BAD, town -> town.year(0, -1, 1));
    }

    static void p28_noSuchQuestion() {
        for (int what : Edges.FAR) Edges.refused("year(0, 1, " + what + ")", BAD, town -> town.year(0, 1, what));
        Edges.refused("year(0, 1, -1)", BAD, town -> town.year(0, 1, -1));
        Edges.refused("year(0, 1, 2)", BAD, town -> town.year(0, 1, 2));
        Edges.refused("year(10000, 41, 2)", BAD, town -> town.year(10000, 41, 2));
    }

    static void p28_changesNothing() {
        Edges.asked("year(0, 1, 0)", town -> town.year(0, 1, 0));
        Edges.asked("year(9999, 40, 0)", town -> town.year(9999, 40, 0));
        Edges.asked("year(9999, 40, 1)", town -> town.year(9999, 40, 1));
    }

    private static int draw(int z, int k) {
        BigInteger x = BigInteger.valueOf(7919).multiply(BigInteger.valueOf(z));
        x = x.add(BigInteger.valueOf(6151).multiply(BigInteger.valueOf(k))).add(BigInteger.ONE);
        return x.multiply(x).mod(BigInteger.valueOf(65521)).intValue() / 2;
    }

    /** The same YEARS, lived through by put, pass and wind, of which each answers for itself. */
    private static void lived(String text, int z, int n) {
        PaintedTown asked = Edges.laid(text), town = Edges.laid(text);
        int passes = 0, sums = 0;
        for (int k = 0; k < n; k++) {
            int draw = draw(z, k);
            town.put(draw % town.count(0), draw / 8 % 8);
            town.pass(1);
            town.wind(draw / 64 % 4);
            passes += town.fine(1);
            sums += town.fine(0);
        }
        due("year(" + z + ", " + n + ", 0) of " + text, asked.year(z, n, 0), passes);
        due("year(" + z + ", " + n + ", 1) of " + text, asked.year(z, n, 1), sums);
    }

    static void p28_theFirstAndTheLastStart() {
        int[] starts = {0, 1, 2, 9998, 9999, 4999};
        for (int z : starts) {
            lived("v2,2;l20;", z, 40);
            lived("v6,6;l60;e14;p20,5;p26,5;w2;", z, 40);
            lived("p7,4;p8,1;l99;", z, 40);
        }
    }

    static void p28_oneYearAnd40() {
        lived("v3,3;p4,5;l9;", 77, 1);
        lived("v3,3;p4,5;l9;", 77, 2);
        lived("v3,3;p4,5;l9;", 77, 39);
        lived("v3,3;p4,5;l9;", 77, 40);
    }

    static void p28_eachViewHasItsCells() {
        for (int rows = 2; rows <= 6; rows++) {
            for (int columns = 2; columns <= 6; columns++) lived("v" + rows + "," + columns + ";l40;", 1234, 40);
        }
    }

    static void p28_onAllOfThem() {
        // 4 CELLS can cost 20 + 16 + 16 + 12 at the most
        PaintedTown town = Edges.laid("v2,2;l64;");
        for (int z = 0; z < 10000; z += 999) {
            due("year(" + z + ", 40, 0)", town.year(z, 40, 0), 40);
            due("year(" + z + ", 1, 0)", town.year(z, 1, 0), 1);
        }
    }

    static void p28_onNone() {
        PaintedTown town = Edges.laid("v6,6;e14;l0;");
        for (int x = 0; x < 36; x++) town.put(x, 1);
        due("year(0, 40, 0)", town.year(0, 40, 0), 0);
        due("year(9999, 40, 0)", town.year(9999, 40, 0), 0);
    }

    static void p28_fromNowOn() {
        // DRAW 0: SKY, that is there, into CELL 0; a YEAR; the WIND nowhere: the TREE of CELL 2 is 2, 3 then
        PaintedTown town = Edges.laid("v2,2;p2,5;e0;w2;l0;");
        town.pass(1);
        due("a TREE of 2 then", town.year(0, 1, 1), 0);
        due("it PASSES", town.year(0, 1, 0), 1);
        town.pass(1);
        due("a TREE of 3 then", town.year(0, 1, 1), 15);
        due("it does not PASS", town.year(0, 1, 0), 0);
    }

    static void p28_anOldTreeStays() {
        int z = 0;
        while (draw(z, 0) % 4 != 2 || draw(z, 0) / 8 % 8 != 5) z++;
        PaintedTown town = Edges.laid("v2,2;p2,5;e0;l99;");
        town.pass(2);
        due("a TREE into its CELL", town.year(z, 1, 1), 15);
        town.lop();
        due("a young one", town.year(z, 1, 1), 0);
    }

    static void p28_theWindTurnsAheadOfTheFine() {
        for (int z = 0; z < 400; z++) {
            int draw = draw(z, 0), d = draw / 64 % 4;
            if (draw / 8 % 8 != 0 || draw % 4 == 2) continue;
            PaintedTown town = Edges.laid("v2,2;i2,4;e0;w" + (d + 1) % 4 + ";");
            due("year(" + z + ", 1, 1)", town.year(z, 1, 1), town.by(d));
        }
    }

    // ---- 29

    static void p29_the2ndAndThe3rd() {
        PaintedTown town = Edges.laid("v2,2;");
        due("keep()", town.keep(), 1);
        due("keep()", town.keep(), 2);
        due("keep()", town.keep(), FULL);
        due("count(9)", town.count(9), 2);
    }

    static void p29_fullChangesNothing() {
        Edges.refusedBy("keep() of a 3rd", Edges.full(), Edges.full(), FULL, town -> town.keep());
    }

    static void p29_oneMoreBehindBack() {
        PaintedTown town = Edges.full();
        town.back();
        due("keep()", town.keep(), 2);
        due("keep()", town.keep(), FULL);
    }

    static void p29_itIsNoChange() {
        PaintedTown town = Edges.laid("v2,2;i2,5;");
        town.pass(3);
        String before = Check.look(town);
        town.keep();
        due("count(8)", town.count(8), 1);
        town.undo();
        due("the YEARS", town.count(3), 0);
        due("KEPT", town.count(9), 1);
        town.back();
        due("the YEARS", town.count(3), 3);
        town.put(0, 1);
        town.undo();
        due("age", town.cell(2, 4), 3);
        Edges.due("the CELLS", Check.look(town).replaceFirst("^[^|]*", ""), before.replaceFirst("^[^|]*", ""));
    }

    static void p29_whatIsKeptStaysAsItWas() {
        PaintedTown town = Edges.laid("v2,2;i2,5;");
        town.keep();
        town.pass(20);
        town.put(2, 1);
        town.canvas(2);
        town.wind(3);
        town.eye(3);
        town.back();
        due("IS", town.cell(2, 1), 5);
        due("age", town.cell(2, 4), 0);
        due("CANVAS", town.count(2), 0);
        due("YEARS", town.count(3), 0);
        due("WIND", town.count(4), 0);
        due("EYE", town.count(5), 0);
    }

    // ---- 30

    static void p30_nothingIsKept() {
        PaintedTown town = Edges.laid("v2,2;");
        due("back()", town.back(), NO);
        PaintedTown one = Edges.some(), other = Edges.some();
        one.back();
        other.back();
        one.put(0, 3);
        other.put(0, 3);
        Edges.refusedBy("back() of nothing", one, other, NO, kept -> kept.back());
    }

    static void p30_theLastFirst() {
        PaintedTown town = Edges.laid("v2,2;");
        town.keep();
        town.put(0, 1);
        town.keep();
        town.put(0, 2);
        due("back()", town.back(), 1);
        due("IS", town.cell(0, 1), 1);
        due("back()", town.back(), 0);
        due("IS", town.cell(0, 1), 0);
        due("back()", town.back(), NO);
    }

    static void p30_itIsKeptNoMore() {
        PaintedTown town = Edges.laid("v2,2;");
        town.keep();
        due("back()", town.back(), 0);
        due("count(9)", town.count(9), 0);
        due("back()", town.back(), NO);
    }

    static void p30_nothingCanBeUndone() {
        PaintedTown town = Edges.full();
        due("count(8)", town.count(8), 8);
        town.back();
        due("count(8)", town.count(8), 0);
        due("undo()", town.undo(), NO);
    }

    static void p30_backIsNotUndone() {
        PaintedTown town = Edges.laid("v2,2;");
        town.put(0, 1);
        town.keep();
        town.put(0, 2);
        town.back();
        due("undo()", town.undo(), NO);
        town.put(0, 3);
        due("undo()", town.undo(), 0);
        due("IS", town.cell(0, 1), 1);
        due("undo()", town.undo(), NO);
    }

    static void p30_whatWasFinedStays() {
        PaintedTown town = Edges.laid("v2,2;");
        town.fined(0, 1);
        town.keep();
        town.fined(0, 2);
        town.back();
        due("count(7)", town.count(7), 2);
        town.keep();
        town.forget();
        town.back();
        due("count(7)", town.count(7), 0);
    }

    static void p30_theTextStays() {
        PaintedTown town = Edges.laid("v2,2;");
        town.keep();
        town.write('l');
        town.back();
        due("count(10)", town.count(10), 6);
        due("fault()", town.fault(), 5);
        town.keep();
        town.wipe();
        town.back();
        due("count(10)", town.count(10), 0);
    }

    static void p30_allAsItStood() {
        PaintedTown one = Edges.full(), other = Edges.full();
        one.back();
        other.back();
        for (int what = 0; what <= 10; what++) due("count(" + what + ")", one.count(what), other.count(what));
        int[] is = {1, 4, 5, 4}, ages = {0, 0, 3, 0}, hung = {0, 0, 0, 1};
        for (int x = 0; x < 4; x++) {
            due("IS " + x, one.cell(x, 1), is[x]);
            due("age " + x, one.cell(x, 4), ages[x]);
            due("CANVAS " + x, one.cell(x, 5), hung[x]);
        }
        due("YEARS", one.count(3), 3);
        due("WIND", one.count(4), 2);
        due("EYE", one.count(5), 1);
    }

    static void p30_behindLay() {
        PaintedTown town = Edges.full();
        town.lay();
        due("back()", town.back(), NO);
    }

    // ---- 31

    static void p31_noSuchQuestion() {
        for (int what : Edges.FAR) Edges.refused("count(" + what + ")", BAD, town -> town.count(what));
        Edges.refused("count(-1)", BAD, town -> town.count(-1));
        Edges.refused("count(11)", BAD, town -> town.count(11));
    }

    static void p31_changesNothing() {
        for (int what = 0; what <= 10; what++) {
            int asked = what;
            Edges.asked("count(" + what + ")", town -> town.count(asked));
        }
    }

    static void p31_theFewest() {
        PaintedTown town = Edges.laid("v2,2;l0;");
        town.wipe();
        int[] counts = {4, 2, 0, 0, 0, 0, 0, 0, 0, 0, 0};
        for (int what = 0; what <= 10; what++) due("count(" + what + ")", town.count(what), counts[what]);
    }

    static void p31_theMost() {
        PaintedTown town = Edges.laid("v6,6;l99;e35;w3;");
        for (int x = 0; x < 36; x++) town.canvas(x);
        town.pass(20);
        for (int i = 0; i < 9; i++) town.fined(0, 0);
        for (int i = 0; i < 9; i++) town.keep();
        for (int i = 0; i < 200; i++) town.write('~');
        int[] counts = {36, 6, 36, 20, 3, 35, 99, 6, 8, 2, 200};
        for (int what = 0; what <= 10; what++) due("count(" + what + ")", town.count(what), counts[what]);
    }

    static void p31_rowsAreNotColumns() {
        due("v2,6", Edges.laid("v2,6;").count(1), 2);
        due("v6,2", Edges.laid("v6,2;").count(1), 6);
    }

    static void p31_yearsUndoneAreNotGoneBy() {
        PaintedTown town = Edges.laid("v2,2;");
        town.pass(3);
        town.pass(4);
        town.undo();
        due("count(3)", town.count(3), 3);
    }
}
