/** Boundary cases of promises 1 to 7: a new object, write, wipe, fault, lay, cell, fine. */
public final class EdgesTownsTest {
    private static final int BAD = Edges.BAD, NO = Edges.NO, FULL = Edges.FULL, NONE = Edges.NONE;
    private static final String FIRST =
        "v4,5;p3,4;p8,1;p9,1;p12,5;p11,2;p13,7;p16,3;p18,1;i3,0;i2,4;i16,0;i17,3;e12;w2;l9;g3,2,4,1;";

    public static void main(String[] args) {
        Edges.run(EdgesTownsTest.class, 1, 7);
    }

    private static void due(String call, long got, long want) {
        Edges.due(call, got, want);
    }

    // ---- 1

    static void p1_nothingWasWritten() {
        PaintedTown town = new PaintedTown();
        due("count(10)", town.count(10), 0);
        due("fault()", town.fault(), NONE);
        due("lay()", town.lay(), NO);
        due("wipe()", town.wipe(), 0);
    }

    static void p1_nothingCanBeUndone() {
        due("undo()", new PaintedTown().undo(), NO);
        due("count(8)", new PaintedTown().count(8), 0);
    }

    static void p1_nothingIsKept() {
        due("back()", new PaintedTown().back(), NO);
        due("count(9)", new PaintedTown().count(9), 0);
    }

    static void p1_nothingWasFined() {
        due("forget()", new PaintedTown().forget(), 0);
        due("count(7)", new PaintedTown().count(7), 0);
    }

    static void p1_noYearNoCanvas() {
        PaintedTown town = new PaintedTown();
        due("count(3)", town.count(3), 0);
        due("count(2)", town.count(2), 0);
        for (int x = 0; x < 20; x++) due("cell(" + x + ", 4)", town.cell(x, 4), 0);
        for (int x = 0; x < 20; x++) due("cell(" + x + ", 5)", town.cell(x, 5), 0);
    }

    static void p1_theTownIsThatOfTheTextTold() {
        PaintedTown town = Edges.laid(FIRST);
        town.wipe();
        Edges.due("as laid", Check.look(new PaintedTown()), Check.look(town));
        for (int z = 0; z < 9; z++) due("year", new PaintedTown().year(z, 40, 1), town.year(z, 40, 1));
    }

    static void p1_theDaysOfTheTextTold() {
        // without the 14 of CELLS 16, 17: 10 on the 3 days nowhere, 4 on the 2 up, 0 on the 4 right, 8 on the 1 left
        PaintedTown town = new PaintedTown();
        town.mend(16);
        town.mend(17);
        int[] sums = {10, 4, 0, 8};
        for (int d = 0; d < 4; d++) due("by(" + d + ")", town.by(d), sums[d]);
        due("chance(0)", town.chance(0), 7);
        due("chance(1)", town.chance(1), 10);
    }

    static void p1_anObjectForItself() {
        PaintedTown one = new PaintedTown();
        one.put(0, 1);
        one.fined(0, 1);
        one.keep();
        one.write('v');
        Edges.due("as new", Check.look(new PaintedTown()), Check.look(new PaintedTown()));
        PaintedTown other = new PaintedTown();
        for (int what = 7; what <= 10; what++) due("count(" + what + ")", other.count(what), 0);
    }

    // ---- 2

    static void p2_theFirstLetterThatIsTold() {
        due("write(32)", new PaintedTown().write(32), 1);
    }

    static void p2_theLastLetterThatIsTold() {
        due("write(126)", new PaintedTown().write(126), 1);
    }

    static void p2_allLettersBetween() {
        PaintedTown town = new PaintedTown();
        for (int letter = 32; letter <= 126; letter++) due("write(" + letter + ")", town.write(letter), letter - 31);
    }

    static void p2_theLetterBeforeTheFirst() {
        Edges.refused("write(31)", BAD, town -> town.write(31));
    }

    static void p2_theLetterBehindTheLast() {
        Edges.refused("write(127)", BAD, town -> town.write(127));
    }

    static void p2_noLetterAtAll() {
        for (int letter : Edges.FAR) Edges.refused("write(" + letter + ")", BAD, town -> town.write(letter));
        int[] others = {-1, 0, 9, 10, 128, 255, 256 + 'v', 65536 + 'v'};
        for (int letter : others) Edges.refused("write(" + letter + ")", BAD, town -> town.write(letter));
    }

    static void p2_the200thAndThe201st() {
        PaintedTown town = new PaintedTown();
        for (int i = 1; i < 200; i++) town.write('l');
        due("the 200th", town.write('l'), 200);
        due("the 201st", town.write('l'), FULL);
        due("count(10)", town.count(10), 200);
    }

    static void p2_fullChangesNothing() {
        PaintedTown one = Edges.full(), other = Edges.full();
        Edges.refusedBy("write when full", one, other, FULL, town -> town.write('v'));
    }

    static void p2_badIsAheadOfFull() {
        PaintedTown town = Edges.full();
        due("write(31)", town.write(31), BAD);
        due("write(127)", town.write(127), BAD);
        due("write(32)", town.write(32), FULL);
    }

    static void p2_aTextOf200IsLaid() {
        due("lay()", Edges.full().lay(), 20);
    }

    static void p2_letterBehindLetter() {
        PaintedTown town = Edges.written("v2,");
        due("fault of the first three", town.fault(), 0);
        Check.write(town, "3;");
        due("fault of all", town.fault(), NONE);
        due("lay", town.lay(), 6);
    }

    // ---- 3

    static void p3_ofNothing() {
        PaintedTown town = new PaintedTown();
        due("wipe()", town.wipe(), 0);
        due("wipe() again", town.wipe(), 0);
    }

    static void p3_ofOne() {
        PaintedTown town = Edges.written("v");
        due("wipe()", town.wipe(), 1);
        due("count(10)", town.count(10), 0);
        due("wipe() again", town.wipe(), 0);
    }

    static void p3_of200() {
        PaintedTown town = Edges.full();
        due("wipe()", town.wipe(), 200);
        due("write behind it", town.write('v'), 1);
    }

    static void p3_theTextIsEmpty() {
        PaintedTown town = Edges.written("x");
        due("fault()", town.fault(), 0);
        town.wipe();
        due("fault() behind it", town.fault(), NONE);
        due("lay() behind it", town.lay(), NO);
    }

    static void p3_nothingElseChanges() {
        PaintedTown one = Edges.some(), other = Edges.some();
        one.wipe();
        Check.write(one, "l5;");
        Edges.due("but THE TEXT", Edges.trace(one), Edges.trace(other));
    }

    // ---- 4

    /** The text alone, and behind others. */
    private static void good(String item) {
        due("fault of " + item, Edges.written(item).fault(), NONE);
        due("fault twice " + item, Edges.written(item + item).fault(), NONE);
        due("fault in the midst " + item, Edges.written(item + "l1;").fault(), NONE);
    }

    private static void wrong(String item) {
        due("fault of " + item, Edges.written(item).fault(), 0);
        due("fault behind one " + item, Edges.written("l1;" + item).fault(), 3);
        due("fault behind a long one " + item, Edges.written("g10,0,0,0;" + item).fault(), 10);
        due("fault ahead " + item, Edges.written("l1;" + item + "w0;").fault(), 3);
        due("lay of " + item, Edges.written(item).lay(), NO);
    }

    static void p4_ofNothing() {
        due("fault()", Edges.written("").fault(), NONE);
    }

    static void p4_viewFewestAndMost() {
        String[] texts = {"v2,2;", "v2,6;", "v6,2;", "v6,6;", "v02,06;"};
        for (String text : texts) good(text);
    }

    static void p4_viewTooSmallTooLarge() {
        String[] texts = {"v1,2;", "v2,1;", "v7,6;", "v6,7;", "v0,2;", "v2,0;", "v99,6;", "v6,99;", "v10,2;", "v01,2;"};
        for (String text : texts) wrong(text);
    }

    static void p4_viewBehindViews() {
        due("v v", Edges.written("v2,2;v6,6;").fault(), NONE);
        due("v v v", Edges.written("v2,2;v6,6;v3,3;p8,1;").fault(), NONE);
        due("the last v counts", Edges.written("v6,6;v3,3;p9,1;").fault(), 10);
    }

    static void p4_viewBehindAnyOther() {
        String[] items = {"p0,0;", "i0,0;", "e0;", "w0;", "l0;", "g10,0,0,0;"};
        for (String item : items) {
            due("v behind " + item, Edges.written(item + "v4,5;").fault(), item.length());
            due("v behind v and " + item, Edges.written("v4,5;" + item + "v4,5;").fault(), 5 + item.length());
        }
    }

    static void p4_cellFirstAndLast() {
        String[] letters = {"p", "i"};
        for (String letter : letters) {
            good(letter + "0,1;");
            good(letter + "19,1;");
            wrong(letter + "20,1;");
            wrong(letter + "99,1;");
            due("v2,2 the last", Edges.written("v2,2;" + letter + "3,1;").fault(), NONE);
            due("v2,2 behind the last", Edges.written("v2,2;" + letter + "4,1;").fault(), 5);
            due("v6,6 the last", Edges.written("v6,6;" + letter + "35,1;").fault(), NONE);
            due("v6,6 behind the last", Edges.written("v6,6;" + letter + "36,1;").fault(), 5);
            due("v2,6 behind the last", Edges.written("v2,6;" + letter + "12,1;").fault(), 5);
        }
    }

    static void p4_thingFirstAndLast() {
        String[] letters = {"p", "i"};
        for (String letter : letters) {
            good(letter + "0,0;");
            good(letter + "0,7;");
            good(letter + "0,07;");
            wrong(letter + "0,8;");
            wrong(letter + "0,10;");
            wrong(letter + "0,99;");
        }
    }

    static void p4_eyeFirstAndLast() {
        good("e0;");
        good("e00;");
        good("e99;");
        wrong("e100;");
    }

    static void p4_windFirstAndLast() {
        good("w0;");
        good("w3;");
        wrong("w4;");
        wrong("w10;");
        wrong("w99;");
    }

    static void p4_limitFirstAndLast() {
        good("l0;");
        good("l99;");
        wrong("l100;");
    }

    static void p4_daysTenTogether() {
        String[] ten = {"g10,0,0,0;", "g0,10,0,0;", "g0,0,10,0;", "g0,0,0,10;", "g1,2,3,4;", "g00,05,5,00;"};
        for (String item : ten) good(item);
        String[] others = {"g9,0,0,0;", "g11,0,0,0;", "g0,0,0,0;", "g1,2,3,3;", "g1,2,3,5;", "g99,99,99,99;", "g10,10,0,0;"};
        for (String item : others) wrong(item);
    }

    static void p4_numbersTooFewTooMany() {
        String[] items = {
            "v4;", "v4,5,6;", "p1;", "p1,1,1;", "i1;", "i1,1,1;", "e1,1;", "w1,1;", "l1,1;",
            "g10;", "g10,0;", "g10,0,0;", "g10,0,0,0,0;", "e1,1,1,1;", "v4,5,0,0,0,0,0;"
        };
        for (String item : items) wrong(item);
    }

    static void p4_noNumber() {
        String[] items = {
            "v;", "p;", "i;", "e;", "w;", "l;", "g;", "v,;", "p,1;", "p1,;", "e,;", "e,1;", "g,,,;", "g10,0,0,;", "p1,,1;"
        };
        for (String item : items) wrong(item);
    }

    static void p4_threeFigures() {
        String[] items = {"v004,5;", "v4,005;", "p000,1;", "p0,001;", "i001,1;", "e001;", "w000;", "l010;", "g010,0,0,0;"};
        for (String item : items) wrong(item);
    }

    static void p4_noFigures() {
        String[] items = {"e-1;", "e+1;", "e1 ;", "e 1;", "e1.;", "ea;", "e1a;", "e/;", "e:;", "e1/;", "e1:;", "p1.1;", "p1:1;"};
        for (String item : items) wrong(item);
    }

    static void p4_noSuchItem() {
        for (int letter = 32; letter <= 126; letter++) {
            if ("vpiewlg".indexOf(letter) >= 0) continue;
            String item = (char) letter + "1;";
            due("fault of " + item, Edges.written(item).fault(), 0);
            due("fault behind one " + item, Edges.written("w1;" + item).fault(), 3);
            String two = (char) letter + "2,2;";
            due("fault of " + two, Edges.written(two).fault(), 0);
        }
    }

    static void p4_notEnded() {
        String[] items = {"v4,5", "v4,", "v4", "v", "p1,1", "p1,", "i1", "e1", "e", "w1", "l10", "g10,0,0,0", "g10,0,0,"};
        for (String item : items) {
            due("fault of " + item, Edges.written(item).fault(), 0);
            due("fault behind one " + item, Edges.written("w1;" + item).fault(), 3);
            due("fault with another behind it " + item, Edges.written(item + "w1;").fault(), 0);
        }
        due("a mark alone", Edges.written("l1;;").fault(), 3);
    }

    static void p4_theFirstOfSeveral() {
        due("two", Edges.written("l1;w4;l2;e100;").fault(), 3);
        due("the second ahead", Edges.written("l1;w3;l2;e100;w4;").fault(), 9);
    }

    static void p4_atTheVeryEnd() {
        PaintedTown town = new PaintedTown();
        for (int i = 0; i < 66; i++) Check.write(town, "l7;");
        due("198 letters", town.fault(), NONE);
        town.write('l');
        due("199 letters", town.fault(), 198);
        town.write(';');
        due("200 letters", town.fault(), 198);
        due("the 201st", town.write('7'), FULL);
        due("still", town.fault(), 198);
    }

    static void p4_theLastOf200() {
        PaintedTown town = new PaintedTown();
        for (int i = 0; i < 65; i++) Check.write(town, "l7;");
        Check.write(town, "p0,1");
        due("199 letters", town.fault(), 195);
        town.write(';');
        due("200 letters", town.fault(), NONE);
        town = new PaintedTown();
        for (int i = 0; i < 65; i++) Check.write(town, "l7;");
        Check.write(town, "p0,8;");
        due("the last ITEM is not so", town.fault(), 195);
    }

    static void p4_theEyeNowhereIsNoFault() {
        due("e20", Edges.written("e20;").fault(), NONE);
        due("e4 of v2,2", Edges.written("v2,2;e4;").fault(), NONE);
    }

    static void p4_changesNothing() {
        Edges.asked("fault()", town -> town.fault());
        PaintedTown one = Edges.some(), other = Edges.some();
        Check.write(one, "v9");
        Check.write(other, "v9");
        Edges.refusedBy("fault()", one, other, 3, town -> town.fault());
    }

    // ---- 5

    static void p5_fewestAndMostCells() {
        due("v2,2", Edges.written("v2,2;").lay(), 4);
        due("v6,6", Edges.written("v6,6;").lay(), 36);
        due("v2,6", Edges.written("v2,6;").lay(), 12);
        due("v6,2", Edges.written("v6,2;").lay(), 12);
    }

    static void p5_empty() {
        PaintedTown one = Edges.some(), other = Edges.some();
        one.wipe();
        other.wipe();
        Edges.refusedBy("lay() of nothing", one, other, NO, town -> town.lay());
    }

    private static void notLaid(String text) {
        PaintedTown one = Edges.some(), other = Edges.some();
        one.wipe();
        other.wipe();
        Check.write(one, text);
        Check.write(other, text);
        Edges.refusedBy("lay() of " + text, one, other, NO, town -> town.lay());
    }

    static void p5_aFault() {
        notLaid("v3,3;p0,1;w4;");
        notLaid("v3,3;p0,1;l5");
        notLaid("x");
    }

    static void p5_theEyeOnNoCell() {
        notLaid("v2,2;e4;");
        notLaid("v6,6;e36;");
        notLaid("e20;");
        notLaid("e99;");
        notLaid("v6,6;e99;");
        notLaid("v2,2;e3;e4;");
    }

    static void p5_theEyeOnTheLastCell() {
        due("v2,2", Edges.written("v2,2;e3;").lay(), 4);
        due("v6,6", Edges.written("v6,6;e35;").lay(), 36);
        due("none", Edges.written("e19;").lay(), 20);
        due("a later one", Edges.written("v2,2;e99;e3;").lay(), 4);
    }

    static void p5_without() {
        PaintedTown town = Edges.laid("w0;");
        int[] counts = {20, 4, 0, 0, 0, 0, 10, 0, 0, 0, 3};
        for (int what = 0; what <= 10; what++) due("count(" + what + ")", town.count(what), counts[what]);
        due("WIND without w", Edges.laid("l1;").count(4), 0);
        for (int x = 0; x < 20; x++) {
            due("SHOULD " + x, town.cell(x, 0), 0);
            due("IS " + x, town.cell(x, 1), 0);
        }
        town.put(0, 1);
        due("a WALL: 20", town.chance(0), 0);
        town.eye(4);
        due("4", town.chance(0), 1);
        due("of ten, ten", town.chance(1), 1);
    }

    static void p5_daysWithoutAreAllNowhere() {
        // SMOKE that stays where it is: 10; with any other WIND 8
        PaintedTown town = Edges.laid("v3,3;i4,4;e4;l9;");
        due("nowhere", town.by(0), 10);
        due("up", town.by(1), 8);
        due("no day", town.chance(0), 0);
        PaintedTown still = Edges.laid("v3,3;p4,4;e4;l9;");
        due("SMOKE where it SHOULD be", still.by(0), 0);
        due("up", still.by(1), 10 + 8);
        due("all days", still.chance(0), 1);
    }

    static void p5_aPaintedThingIsThere() {
        for (int k = 0; k < 8; k++) {
            PaintedTown town = Edges.laid("p7," + k + ";");
            due("SHOULD", town.cell(7, 0), k);
            due("IS", town.cell(7, 1), k);
        }
    }

    static void p5_aThingThatIs() {
        for (int k = 0; k < 8; k++) {
            PaintedTown town = Edges.laid("p7,1;i7," + k + ";");
            due("SHOULD", town.cell(7, 0), 1);
            due("IS", town.cell(7, 1), k);
        }
    }

    static void p5_theLaterOfTheCellCounts() {
        PaintedTown town = Edges.laid("i0,3;p0,1;p1,1;i1,2;i1,3;p2,1;p2,2;p3,7;i3,1;p3,0;");
        int[] should = {1, 1, 2, 0}, is = {1, 3, 2, 0};
        for (int x = 0; x < 4; x++) {
            due("SHOULD " + x, town.cell(x, 0), should[x]);
            due("IS " + x, town.cell(x, 1), is[x]);
        }
    }

    static void p5_theLastOfSeveralCounts() {
        PaintedTown town = Edges.laid("v6,6;v2,3;e5;e0;e4;w3;w0;w1;l99;l0;l3;g10,0,0,0;g0,0,0,10;g0,5,5,0;");
        int[] counts = {6, 2, 0, 0, 1, 4, 3};
        for (int what = 0; what <= 6; what++) due("count(" + what + ")", town.count(what), counts[what]);
        town.put(4, 4);
        // seen in CELL 1 with the WIND up (8), in CELL 5 with the WIND right (8)
        due("chance(0)", town.chance(0), 0);
        town.put(4, 0);
        town.put(5, 4);
        town.eye(0);
        // in CELL 2 with the WIND up (6), nowhere with the WIND right
        due("chance(0)", town.chance(0), 1);
        due("chance(1)", town.chance(1), 2);
    }

    static void p5_rowByRow() {
        // CELL 6 of 5 columns is the second of the second row: rows and columns from 0 together 2
        due("v4,5", Edges.laid("v4,5;i6,1;").cell(6, 3), 12);
        due("v4,6", Edges.laid("v4,6;i6,1;").cell(6, 3), 16);
        due("v4,2", Edges.laid("v4,2;i6,1;").cell(6, 3), 8);
    }

    static void p5_nothingStaysBut() {
        PaintedTown town = Edges.full();
        due("lay()", town.lay(), 20);
        int[] counts = {20, 4, 0, 0, 0, 1, 10, 0, 0, 0, 200};
        for (int what = 0; what <= 10; what++) due("count(" + what + ")", town.count(what), counts[what]);
        due("undo()", town.undo(), NO);
        due("back()", town.back(), NO);
        due("forget()", town.forget(), 0);
        town.wipe();
        Check.write(town, "p0,1;e1;");
        PaintedTown other = Edges.laid("p0,1;e1;");
        Edges.due("as on a new object", Check.look(town), Check.look(other));
    }

    static void p5_nothingStaysInTheFirstAndTheLastCell() {
        PaintedTown town = Edges.laid("v6,6;p0,5;p35,5;i35,2;");
        town.wipe();
        Check.write(town, "v6,6;");
        due("lay()", town.lay(), 36);
        int[] ends = {0, 35};
        for (int x : ends) {
            for (int what = 0; what <= 5; what++) due("cell(" + x + ", " + what + ")", town.cell(x, what), 0);
        }
    }

    static void p5_theDaysDoNotStay() {
        PaintedTown town = Edges.laid("v2,2;g0,0,0,10;");
        town.wipe();
        Check.write(town, "v2,2;i0,4;l9;");
        town.lay();
        // 10 with the WIND nowhere, 0 left
        due("chance(0)", town.chance(0), 0);
    }

    static void p5_treesAreYoungAgain() {
        PaintedTown town = Edges.laid("v2,2;i2,5;");
        town.pass(20);
        due("20 YEARS", town.cell(2, 4), 20);
        town.lay();
        due("laid anew", town.cell(2, 4), 0);
        due("not seen above", town.cell(0, 2), 0);
    }

    static void p5_itCanNotBeUndone() {
        PaintedTown town = Edges.laid("v2,2;");
        town.put(0, 1);
        town.lay();
        due("undo()", town.undo(), NO);
        due("IS", town.cell(0, 1), 0);
    }

    // ---- 6

    static void p6_theFirstAndTheLastCell() {
        String[] views = {"v2,2;", "v6,6;", "v2,6;", "l1;"};
        int[] cells = {4, 36, 12, 20};
        for (int i = 0; i < views.length; i++) {
            PaintedTown town = Edges.laid(views[i]);
            for (int what = 0; what <= 5; what++) {
                due(views[i] + " cell(0, " + what + ")", town.cell(0, what), 0);
                due(views[i] + " the last, " + what, town.cell(cells[i] - 1, what), 0);
                due(views[i] + " behind the last, " + what, town.cell(cells[i], what), BAD);
                due(views[i] + " ahead of the first, " + what, town.cell(-1, what), BAD);
            }
        }
    }

    static void p6_noSuchQuestion() {
        for (int what : Edges.FAR) Edges.refused("cell(0, " + what + ")", BAD, town -> town.cell(0, what));
        Edges.refused("cell(0, -1)", BAD, town -> town.cell(0, -1));
        Edges.refused("cell(0, 6)", BAD, town -> town.cell(0, 6));
    }

    static void p6_noSuchCell() {
        for (int x : Edges.FAR) Edges.refused("cell(" + x + ", 1)", BAD, town -> town.cell(x, 1));
        int[] others = {-1, 4, 5, 19, 35, 36, 99};
        for (int x : others) Edges.refused("cell(" + x + ", 0)", BAD, town -> town.cell(x, 0));
        Edges.refused("cell(4, 6)", BAD, town -> town.cell(4, 6));
    }

    static void p6_changesNothing() {
        for (int what = 0; what <= 5; what++) {
            int asked = what;
            Edges.asked("cell(2, " + what + ")", town -> town.cell(2, asked));
        }
    }

    static void p6_treeOf2YearsAndOf3() {
        PaintedTown town = Edges.laid("v2,2;i2,5;");
        town.pass(2);
        due("2 YEARS: age", town.cell(2, 4), 2);
        due("2 YEARS: seen", town.cell(0, 2), 0);
        town.pass(1);
        due("3 YEARS: age", town.cell(2, 4), 3);
        due("3 YEARS: seen", town.cell(0, 2), 5);
    }

    static void p6_treeInTheFirstRow() {
        PaintedTown town = Edges.laid("v3,3;i0,5;i1,5;i2,5;");
        town.pass(20);
        for (int x = 3; x < 9; x++) due("seen in " + x, town.cell(x, 2), 0);
    }

    static void p6_treeInTheLastRow() {
        PaintedTown town = Edges.laid("v3,3;i6,5;i8,5;");
        town.pass(20);
        int[] seen = {0, 0, 0, 5, 0, 5, 5, 0, 5};
        for (int x = 0; x < 9; x++) due("seen in " + x, town.cell(x, 2), seen[x]);
    }

    static void p6_treeBehindCanvas() {
        PaintedTown town = Edges.laid("v2,2;i2,5;");
        town.pass(3);
        town.canvas(2);
        due("above it", town.cell(0, 2), 5);
        town.canvas(0);
        due("CANVAS above it", town.cell(0, 2), 0);
    }

    static void p6_treeOverSkyAndSmokeAlone() {
        for (int k = 0; k < 8; k++) {
            PaintedTown town = Edges.laid("v2,2;p2,1;i2,5;i0," + k + ";");
            town.pass(3);
            due("seen of " + k, town.cell(0, 2), k == 0 || k == 4 ? 5 : k);
        }
    }

    static void p6_smokeIsSeenInSkyAndSmokeAlone() {
        for (int k = 0; k < 8; k++) {
            PaintedTown town = Edges.laid("v2,2;w2;i0,4;i1," + k + ";");
            due("seen of " + k, town.cell(1, 2), k == 0 || k == 4 ? 4 : k);
        }
    }

    private static void smokes(int d, int... seenIn) {
        PaintedTown town = Edges.laid("v3,3;i0,4;i2,4;i4,4;i6,4;i8,4;w" + d + ";");
        int[] want = new int[9];
        for (int x : seenIn) want[x] = 4;
        for (int x = 0; x < 9; x++) due("WIND " + d + ", seen in " + x, town.cell(x, 2), want[x]);
    }

    static void p6_smokeNowhere() {
        smokes(0, 0, 2, 4, 6, 8);
    }

    static void p6_smokeUpNothingFromBelowTheLastRow() {
        smokes(1, 1, 3, 5);
    }

    static void p6_smokeRightNothingFromTheRowAbove() {
        smokes(2, 1, 5, 7);
    }

    static void p6_smokeLeftNothingFromTheRowBelow() {
        smokes(3, 1, 3, 7);
    }

    static void p6_smokeAtTheEndsOfTheRows() {
        due("right, into the next row", Edges.laid("v3,3;i2,4;w2;").cell(3, 2), 0);
        due("left, into the row before", Edges.laid("v3,3;i3,4;w3;").cell(2, 2), 0);
        due("up, out of the first row", Edges.laid("v3,3;i0,4;w1;").fine(2), 0);
        due("right, out of the last", Edges.laid("v3,3;i8,4;w2;").fine(2), 0);
        due("left, out of the first", Edges.laid("v3,3;i0,4;w3;").fine(2), 0);
    }

    static void p6_smokeFromBehindCanvas() {
        PaintedTown town = Edges.laid("v2,2;i0,4;w2;");
        town.canvas(0);
        due("it goes on", town.cell(1, 2), 4);
    }

    static void p6_treeIsAheadOfSmoke() {
        PaintedTown town = Edges.laid("v2,2;i0,4;i3,5;w2;");
        due("SMOKE", town.cell(1, 2), 4);
        town.pass(3);
        due("a TREE", town.cell(1, 2), 5);
    }

    static void p6_costByDistance() {
        // a WALL before SKY costs 4 times 5, 4, 3, 2, 1, and 1 from there on
        int[] costs = {20, 16, 12, 8, 4, 4, 4, 4, 4, 4, 4};
        for (int far = 0; far <= 10; far++) {
            int x = far <= 5 ? far : 5 + 6 * (far - 5);
            due("cost at " + far, Edges.laid("v6,6;i" + x + ",1;").cell(x, 3), costs[far]);
            int mirrored = 35 - x;
            due("cost at -" + far, Edges.laid("v6,6;e35;i" + mirrored + ",1;").cell(mirrored, 3), costs[far]);
        }
    }

    static void p6_costOfTheGreaterOfBoth() {
        int[] sizes = {0, 4, 3, 2, 2, 3, 1, 2};
        for (int k = 0; k < 8; k++) {
            due("seen " + k, Edges.laid("v6,6;i35," + k + ";").cell(35, 3), sizes[k]);
            due("not seen " + k, Edges.laid("v6,6;w1;p35," + k + ";i35,0;").cell(35, 3), sizes[k]);
            due("for a SWALLOW " + k, Edges.laid("v6,6;p35,6;i35," + k + ";w0;").cell(35, 3), k == 6 ? 0 : Math.max(1, sizes[k]));
        }
    }

    static void p6_costOfUnlikeThingsOfOneSize() {
        due("a DOG for a WINDOW", Edges.laid("v6,6;p35,7;i35,3;").cell(35, 3), 2);
        due("a TREE for a PERSON", Edges.laid("v6,6;p35,2;i35,5;").cell(35, 3), 3);
    }

    static void p6_costOfWhatIsRight() {
        due("as it SHOULD be", Edges.laid("v2,2;p0,1;").cell(0, 3), 0);
        PaintedTown town = Edges.laid("v2,2;i0,1;");
        town.canvas(0);
        due("behind CANVAS", town.cell(0, 3), 0);
    }

    static void p6_ageOfTreesAlone() {
        PaintedTown town = Edges.laid("v2,2;i0,5;i1,4;");
        town.pass(20);
        town.pass(20);
        due("a TREE", town.cell(0, 4), 40);
        due("SMOKE", town.cell(1, 4), 0);
        due("SKY", town.cell(2, 4), 0);
    }

    // ---- 7

    static void p7_noSuchQuestion() {
        for (int what : Edges.FAR) Edges.refused("fine(" + what + ")", BAD, town -> town.fine(what));
        Edges.refused("fine(-1)", BAD, town -> town.fine(-1));
        Edges.refused("fine(3)", BAD, town -> town.fine(3));
    }

    static void p7_changesNothing() {
        Edges.asked("fine(0)", town -> town.fine(0));
        Edges.asked("fine(1)", town -> town.fine(1));
        Edges.asked("fine(2)", town -> town.fine(2));
    }

    static void p7_nothingWrong() {
        PaintedTown town = Edges.laid("v6,6;l0;");
        due("fine(0)", town.fine(0), 0);
        due("fine(1)", town.fine(1), 1);
        due("fine(2)", town.fine(2), 0);
    }

    static void p7_allWrong() {
        PaintedTown town = Edges.laid("v6,6;e14;");
        int sum = 0;
        for (int x = 0; x < 36; x++) {
            town.put(x, 1);
            sum += 4 * Math.max(1, 5 - Math.abs(x / 6 - 2) - Math.abs(x % 6 - 2));
        }
        due("fine(0)", town.fine(0), sum);
        due("fine(2)", town.fine(2), 36);
    }

    static void p7_smallIs3AndNot4() {
        due("a PERSON, far: 3", Edges.laid("v6,6;i35,2;").fine(0), 1);
        due("a WALL, far: 4", Edges.laid("v6,6;i35,1;").fine(0), 4);
        due("a SWALLOW at 2: 3", Edges.laid("v6,6;i2,6;").fine(0), 1);
        due("a SWALLOW at 1: 4", Edges.laid("v6,6;i1,6;").fine(0), 4);
        due("a DOG at 4: 2", Edges.laid("v6,6;i4,3;").fine(0), 0);
        due("a DOG at 3: 4", Edges.laid("v6,6;i3,3;").fine(0), 4);
    }

    static void p7_theThirdPartCut() {
        // SWALLOWS of 1 each, far from the EYE: 1, 2, 3, .. together
        PaintedTown town = Edges.laid("v6,6;");
        int[] far = {35, 34, 33, 32, 31, 30, 29, 28, 27};
        for (int i = 0; i < far.length; i++) {
            town.put(far[i], 6);
            due("of " + (i + 1), town.fine(0), (i + 1) / 3);
            due("WRONG", town.fine(2), i + 1);
        }
    }

    static void p7_theThirdPartOfAllTogether() {
        // 2 and 2 and 2 are 6: 2, not 0 and 0 and 0; beside a WALL of 4
        due("three DOGS", Edges.laid("v6,6;i35,3;i34,3;i33,3;").fine(0), 2);
        due("three DOGS, a WALL", Edges.laid("v6,6;i35,3;i34,3;i33,3;i32,1;").fine(0), 6);
        due("two DOGS, a PERSON", Edges.laid("v6,6;i35,3;i34,3;i33,2;").fine(0), 2);
        due("two PERSONS, a DOG", Edges.laid("v6,6;i35,2;i34,2;i33,3;").fine(0), 2);
        due("three PERSONS", Edges.laid("v6,6;i35,2;i34,2;i33,2;").fine(0), 3);
    }

    static void p7_noMoreThanL() {
        due("20 of 20", Edges.laid("v2,2;i0,1;l20;").fine(1), 1);
        due("20 of 19", Edges.laid("v2,2;i0,1;l19;").fine(1), 0);
        due("1 of 0", Edges.laid("v6,6;i35,2;l0;").fine(1), 0);
        due("0 of 0, two WRONG", Edges.laid("v6,6;i35,6;i34,6;l0;").fine(1), 1);
        due("20 of the 10 without", Edges.laid("v2,2;i0,1;").fine(1), 0);
        due("10 of the 10 without", Edges.laid("v2,2;i0,3;").fine(1), 1);
    }

    static void p7_wrongIsCountedEvenIfItCostsNothing() {
        due("one SWALLOW", Edges.laid("v6,6;i35,6;").fine(2), 1);
        due("its FINE", Edges.laid("v6,6;i35,6;").fine(0), 0);
        due("its price", Edges.laid("v6,6;i35,6;").cell(35, 3), 1);
    }

    static void p7_ninetyNine() {
        // WALLS at and beside the EYE in the corner: 20, 16, 16, 12, 12, 12: 88; then 8, 4
        PaintedTown town = Edges.laid("v6,6;l99;");
        int[] walls = {0, 1, 6, 2, 7, 12, 3};
        for (int x : walls) town.put(x, 1);
        due("fine(0)", town.fine(0), 96);
        due("fine(1)", town.fine(1), 1);
        town.put(35, 1);
        due("fine(0)", town.fine(0), 100);
        due("fine(1)", town.fine(1), 0);
        town.put(35, 2);
        town.put(34, 2);
        town.put(33, 2);
        due("fine(0)", town.fine(0), 99);
        due("fine(1)", town.fine(1), 1);
        due("fine(2)", town.fine(2), 10);
    }
}
