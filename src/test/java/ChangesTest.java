/** Promises 8 to 15: MENDED, PUT, LOPPED, CANVAS, the WIND, the EYE, YEARS, UNDONE. */
public final class ChangesTest {
    private static final int BAD = Check.BAD, NO = Check.NO;
    private static final int[] NO_CELLS = {-1, 20, 36, 99, Integer.MAX_VALUE, Integer.MIN_VALUE};
    private static final Check CHECK = new Check();

    private static void due(String call, long got, long want) {
        CHECK.due(call, got, want);
    }

    public static void main(String[] args) {
        promise8();
        promise9();
        promise10();
        promise11();
        promise12And13();
        promise14();
        promise15Each();
        promise15Many();
        CHECK.end();
    }

    private static void promise8() {
        int[] sizes = {0, 4, 3, 2, 2, 3, 1, 2};
        for (int k = 0; k < 8; k++) {
            PaintedTown town = CHECK.laid("v2,2;p1," + k + ";i1," + (k == 1 ? 0 : 1) + ";");
            due("mend of " + k, town.mend(1), sizes[k]);
            due("mended of " + k, town.cell(1, 1), k);
            due("age of mended " + k, town.cell(1, 4), 0);
            due("can be undone", town.count(8), 1);
            String before = Check.look(town);
            due("mend again of " + k, town.mend(1), NO);
            CHECK.same("mend again", town, before);
        }
        PaintedTown town = CHECK.laid("p0,5;i5,5;");
        String before = Check.look(town);
        for (int x : NO_CELLS) due("mend(" + x + ")", town.mend(x), BAD);
        CHECK.same("mend of no CELL", town, before);
        town.pass(3);
        due("a grown TREE is as it SHOULD be", town.mend(0), NO);
        due("and as old as before", town.cell(0, 4), 3);
        due("SEEN as a TREE, and not WRONG, is not as it SHOULD be", CHECK.laid("v2,2;p0,5;i0,4;i2,5;").mend(0), 3);
        due("a TREE away", town.mend(5), 0);
        town = CHECK.laid("v2,2;p0,4;w2;");
        due("SMOKE blown away IS as it SHOULD be", town.mend(0), NO);
        town = CHECK.laid("v2,2;p0,1;i0,3;");
        town.canvas(0);
        due("behind CANVAS", town.mend(0), 4);
        due("CANVAS stays", town.cell(0, 5), 1);
        town = CHECK.laid("v2,2;i0,5;p0,1;i0,5;");
        town.pass(7);
        town.mend(0);
        due("no TREE, no age", town.cell(0, 4), 0);
        town.put(0, 5);
        due("a new TREE", town.cell(0, 4), 0);
    }

    private static void promise9() {
        PaintedTown town = CHECK.laid("v2,2;");
        int was = 0;
        int[] things = {5, 1, 4, 7, 2, 6, 3, 0, 5, 0};
        for (int k : things) {
            due("put " + k, town.put(3, k), was);
            due("IS", town.cell(3, 1), k);
            due("SHOULD", town.cell(3, 0), 0);
            due("put again " + k, town.put(3, k), NO);
            was = k;
        }
        town = CHECK.laid("p0,5;");
        town.pass(4);
        String before = Check.look(town);
        for (int x : NO_CELLS) {
            due("put(" + x + ", 1)", town.put(x, 1), BAD);
            due("put(" + x + ", 8)", town.put(x, 8), BAD);
        }
        due("put(0, 8)", town.put(0, 8), BAD);
        due("put(0, -1)", town.put(0, -1), BAD);
        due("put(1, 0) of SKY", town.put(1, 0), NO);
        due("put of an old TREE", town.put(0, 5), NO);
        CHECK.same("wrong put", town, before);
        due("put a DOG for a TREE", town.put(0, 3), 5);
        due("put a TREE for a DOG", town.put(0, 5), 3);
        due("the TREE is young", town.cell(0, 4), 0);
    }

    private static void promise10() {
        PaintedTown town = CHECK.laid("v3,3;i3,5;");
        town.pass(1);
        town.put(4, 5);
        town.pass(2);
        town.put(5, 5);
        town.canvas(3);
        due("lop: one of 3, one of 2, one of 0", town.lop(), 1);
        for (int x = 0; x < 9; x++) due("age " + x, town.cell(x, 4), 0);
        for (int x = 3; x < 6; x++) due("TREE " + x, town.cell(x, 1), 5);
        due("YEARS stay gone by", town.count(3), 3);
        due("lop again", town.lop(), 0);
        town.pass(3);
        due("grown again", town.lop(), 3);
        town = CHECK.laid("v2,2;");
        due("lop of no TREES", town.lop(), 0);
        due("can be undone", town.count(8), 1);
    }

    private static void promise11() {
        PaintedTown town = CHECK.laid("p3,1;i3,0;");
        String before = Check.look(town);
        for (int x : NO_CELLS) due("canvas(" + x + ")", town.canvas(x), BAD);
        CHECK.same("canvas of no CELL", town, before);
        due("hung", town.canvas(3), 1);
        due("count(2)", town.count(2), 1);
        due("seen", town.cell(3, 2), 1);
        due("another hung", town.canvas(19), 1);
        due("count(2)", town.count(2), 2);
        due("taken away", town.canvas(3), 0);
        due("count(2)", town.count(2), 1);
        due("seen", town.cell(3, 2), 0);
        due("it can be undone thrice", town.count(8), 3);
    }

    private static void promise12And13() {
        PaintedTown town = CHECK.laid("v3,3;e2;w1;");
        String before = Check.look(town);
        int[] winds = {-1, 4, Integer.MAX_VALUE, Integer.MIN_VALUE};
        for (int d : winds) due("wind(" + d + ")", town.wind(d), BAD);
        int[] eyes = {-1, 9, 12, 99, Integer.MAX_VALUE, Integer.MIN_VALUE};
        for (int x : eyes) due("eye(" + x + ")", town.eye(x), BAD);
        CHECK.same("wrong wind, eye", town, before);
        int was = 1;
        int[] turns = {3, 0, 2, 2, 1};
        for (int d : turns) {
            due("wind(" + d + ")", town.wind(d), was);
            due("count(4)", town.count(4), d);
            was = d;
        }
        due("the same WIND can be undone too", town.count(8), 5);
        due("eye(8)", town.eye(8), 2);
        due("eye(8) again", town.eye(8), 8);
        due("eye(0)", town.eye(0), 8);
        due("count(5)", town.count(5), 0);
        due("the same EYE can be undone too", town.count(8), 8);
        town.put(4, 1);
        due("from CELL 0", town.fine(0), 12);
        town.eye(4);
        due("from CELL 4", town.fine(0), 20);
    }

    private static void promise14() {
        PaintedTown town = CHECK.laid("v2,2;i2,5;");
        String before = Check.look(town);
        int[] wrong = {0, -1, 21, 40, Integer.MAX_VALUE, Integer.MIN_VALUE};
        for (int n : wrong) due("pass(" + n + ")", town.pass(n), BAD);
        CHECK.same("wrong pass", town, before);
        due("pass(1)", town.pass(1), 1);
        due("pass(20)", town.pass(20), 21);
        due("count(3)", town.count(3), 21);
        due("age", town.cell(2, 4), 21);
        town.put(3, 5);
        due("pass(2)", town.pass(2), 23);
        due("age of the new one", town.cell(3, 4), 2);
        due("age of the old one", town.cell(2, 4), 23);
        due("age of SKY", town.cell(0, 4), 0);
        town.canvas(3);
        town.pass(1);
        due("age behind CANVAS", town.cell(3, 4), 3);
        for (int i = 0; i < 400; i++) town.pass(20);
        due("many YEARS", town.count(3), 8024);
        due("an old TREE", town.cell(2, 4), 8024);
        town = CHECK.laid("v6,6;i0,5;i35,5;i35,5;");
        town.pass(20);
        due("the first CELL", town.cell(0, 4), 20);
        due("the last CELL", town.cell(35, 4), 20);
    }

    private static void change(PaintedTown town, int kind) {
        switch (kind) {
            case 0: town.mend(0); break;
            case 1: town.put(1, 7); break;
            case 2: town.lop(); break;
            case 3: town.canvas(3); break;
            case 4: town.wind(3); break;
            case 5: town.eye(3); break;
            case 6: town.pass(20); break;
            case 7: town.canvas(2); break;
            case 8: town.wind(town.count(4)); break;
            default: town.eye(town.count(5)); break;
        }
    }

    private static void promise15Each() {
        for (int kind = 0; kind < 10; kind++) {
            PaintedTown town = CHECK.laid("v2,2;p0,5;i0,1;i3,5;i2,5;w2;e1;");
            town.pass(5);
            town.canvas(2);
            town.keep();
            town.back();
            due("undo of nothing", town.undo(), NO);
            String before = Check.look(town);
            change(town, kind);
            due("one to undo", town.count(8), 1);
            due("undo of " + kind, town.undo(), 0);
            CHECK.same("change " + kind + " and undo", town, before);
            due("undo again", town.undo(), NO);
            CHECK.same("undo of nothing", town, before);
        }
    }

    private static void promise15Many() {
        PaintedTown town = CHECK.laid("v2,2;p0,5;i0,1;i3,5;i2,5;w2;e1;");
        int[] kinds = {6, 0, 1, 2, 3, 4, 5, 6, 7, 8, 9, 2, 6, 3, 5};
        String[] states = new String[kinds.length];
        for (int i = 0; i < kinds.length; i++) {
            states[i] = state(town);
            change(town, kinds[i]);
            due("to be undone", town.count(8), Math.min(i + 1, 8));
            town.mend(-1);
            town.put(0, town.cell(0, 1));
        }
        for (int left = 7; left >= 0; left--) {
            due("undo, left", town.undo(), left);
            due("as it was", state(town).equals(states[kinds.length - 8 + left]) ? 1 : 0, 1);
        }
        due("undo of a ninth", town.undo(), NO);
        change(town, 6);
        change(town, 3);
        due("undo behind new changes", town.undo(), 1);
        due("undo behind new changes", town.undo(), 0);
        town.fined(0, 0);
        town.write('v');
        town.pass(1);
        town.undo();
        due("what was FINED is not UNDONE", town.count(7), 1);
        due("THE TEXT is not UNDONE", town.count(10), 32);
    }

    /** What a change changes. */
    private static String state(PaintedTown town) {
        StringBuilder row = new StringBuilder();
        for (int what = 3; what <= 5; what++) row.append(town.count(what)).append(' ');
        for (int x = 0; x < 4; x++) {
            row.append(town.cell(x, 1)).append(' ').append(town.cell(x, 4)).append(' ').append(town.cell(x, 5)).append(' ');
        }
        return row.toString();
    }
}
