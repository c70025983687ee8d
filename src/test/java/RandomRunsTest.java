/** Runs of calls by a fixed row of numbers, each answer against that of Naive. */
public final class RandomRunsTest {
    private static final int RUNS = 700, MOST_CALLS = 512;
    private static final String[] NAMES = {
        "write", "wipe", "fault", "lay", "cell", "fine", "mend", "put", "lop", "canvas", "wind", "eye", "pass", "undo",
        "behind", "until", "least", "canvases", "never", "fined", "forget", "moved", "frames", "copy", "by", "chance",
        "year", "keep", "back", "count"
    };
    /** How often each call comes, beside the others. */
    private static final int[] OFTEN = {
        1, 1, 2, 1, 12, 6, 10, 30, 2, 12, 12, 6, 12, 14,
        8, 4, 5, 3, 6, 10, 5, 4, 6, 6, 6, 4,
        4, 5, 4, 8
    };

    private static final Check CHECK = new Check();
    private static long seed = 20261119;
    private static PaintedTown town;
    private static Naive naive;
    private static int calls, run;

    public static void main(String[] args) {
        int[] came = new int[NAMES.length];
        for (run = 1; run <= RUNS; run++) {
            town = new PaintedTown();
            naive = new Naive();
            calls = 0;
            if (below(8) > 0) {
                layText();
            }
            int end = below(4) == 0 ? MOST_CALLS : 60 + below(200);
            while (calls < end) {
                int call = pick();
                came[call]++;
                one(call);
            }
            lookAtAll();
        }
        for (int i = 0; i < NAMES.length; i++) CHECK.due(NAMES[i] + " came", came[i] > 100 ? 1 : 0, 1);
        CHECK.end();
    }

    private static int below(int n) {
        seed = seed * 6364136223846793005L + 1442695040888963407L;
        return (int) ((seed >>> 33) % n);
    }

    private static int pick() {
        int all = 0;
        for (int often : OFTEN) all += often;
        int at = below(all);
        for (int i = 0; i < OFTEN.length; i++) {
            at -= OFTEN[i];
            if (at < 0) return i;
        }
        return 0;
    }

    /** Mostly a number that is told, now and then one beside. */
    private static int number(int lowest, int highest) {
        int odd = below(40);
        if (odd == 0) return lowest - 1;
        if (odd == 1) return highest + 1;
        if (odd == 2) return below(2) == 0 ? Integer.MIN_VALUE : Integer.MAX_VALUE;
        return lowest + below(highest - lowest + 1);
    }

    private static int cell() {
        return number(0, naive.count(0) - 1);
    }

    private static void due(String call, long got, long want) {
        calls++;
        CHECK.due("run " + run + ", call " + calls + ": " + call, got, want);
    }

    private static void layText() {
        String text = text();
        due("wipe()", town.wipe(), naive.wipe());
        for (int i = 0; i < text.length(); i++) {
            int letter = text.charAt(i);
            due("write(" + letter + ")", town.write(letter), naive.write(letter));
        }
        due("fault() of " + text, town.fault(), naive.fault());
        due("lay() of " + text, town.lay(), naive.lay());
    }

    private static String text() {
        int rows = 4, columns = 5;
        StringBuilder text = new StringBuilder();
        if (below(6) > 0) {
            rows = 2 + below(5);
            columns = 2 + below(5);
            text.append('v').append(rows).append(',').append(columns).append(';');
        }
        int cells = rows * columns;
        for (int i = below(cells + 1); i > 0; i--) text.append(below(3) == 0 ? 'i' : 'p').append(below(cells)).append(',').append(below(8)).append(';');
        if (below(3) > 0) text.append('e').append(below(20) == 0 ? below(100) : below(cells)).append(';');
        if (below(3) > 0) text.append('w').append(below(4)).append(';');
        if (below(3) > 0) text.append('l').append(below(below(2) == 0 ? 100 : 30)).append(';');
        if (below(3) > 0) {
            int a = below(11), b = below(11 - a), c = below(11 - a - b);
            text.append('g').append(a).append(',').append(b).append(',').append(c).append(',').append(10 - a - b - c).append(';');
        }
        if (below(5) == 0) spoil(text);
        return text.toString();
    }

    private static void spoil(StringBuilder text) {
        String letters = "vpiewlg0123456789,; x";
        for (int i = 1 + below(2); i > 0 && text.length() > 0; i--) {
            int at = below(text.length());
            char letter = letters.charAt(below(letters.length()));
            switch (below(3)) {
                case 0: text.deleteCharAt(at); break;
                case 1: text.setCharAt(at, letter); break;
                default: text.insert(at, letter); break;
            }
        }
    }

    private static void one(int call) {
        int a = 0, b = 0, c = 0;
        switch (call) {
            case 0: a = number(32, 126); due("write(" + a + ")", town.write(a), naive.write(a)); break;
            case 1: if (below(4) == 0) due("wipe()", town.wipe(), naive.wipe()); break;
            case 2: due("fault()", town.fault(), naive.fault()); break;
            case 3:
                if (below(3) == 0 && calls < 250) layText(); else due("lay()", town.lay(), naive.lay());
                break;
            case 4: a = cell(); b = number(0, 5); due("cell(" + a + ", " + b + ")", town.cell(a, b), naive.cell(a, b)); break;
            case 5: a = number(0, 2); due("fine(" + a + ")", town.fine(a), naive.fine(a)); break;
            case 6: a = cell(); due("mend(" + a + ")", town.mend(a), naive.mend(a)); break;
            case 7: a = cell(); b = thing(); due("put(" + a + ", " + b + ")", town.put(a, b), naive.put(a, b)); break;
            case 8: due("lop()", town.lop(), naive.lop()); break;
            case 9: a = cell(); due("canvas(" + a + ")", town.canvas(a), naive.canvas(a)); break;
            case 10: a = number(0, 3); due("wind(" + a + ")", town.wind(a), naive.wind(a)); break;
            case 11: a = cell(); due("eye(" + a + ")", town.eye(a), naive.eye(a)); break;
            case 12: a = below(2) == 0 ? number(1, 20) : 1; due("pass(" + a + ")", town.pass(a), naive.pass(a)); break;
            case 13: due("undo()", town.undo(), naive.undo()); break;
            case 14: a = number(0, 20); b = number(0, 1); due("behind(" + a + ", " + b + ")", town.behind(a, b), naive.behind(a, b)); break;
            case 15: due("until()", town.until(), naive.until()); break;
            case 16: sets(false); break;
            case 17: sets(true); break;
            case 18: a = number(0, naive.count(1) - 1); due("never(" + a + ")", town.never(a), naive.never(a)); break;
            case 19: fined(); break;
            case 20: due("forget()", town.forget(), naive.forget()); break;
            case 21: a = number(0, 1); due("moved(" + a + ")", town.moved(a), naive.moved(a)); break;
            case 22: a = number(0, 1); due("frames(" + a + ")", town.frames(a), naive.frames(a)); break;
            case 23: a = cell(); due("copy(" + a + ")", town.copy(a), naive.copy(a)); break;
            case 24: a = number(0, 3); due("by(" + a + ")", town.by(a), naive.by(a)); break;
            case 25: a = number(0, 1); due("chance(" + a + ")", town.chance(a), naive.chance(a)); break;
            case 26:
                a = number(0, 9999);
                b = number(1, 40);
                c = number(0, 1);
                due("year(" + a + ", " + b + ", " + c + ")", town.year(a, b, c), naive.year(a, b, c));
                break;
            case 27: due("keep()", town.keep(), naive.keep()); break;
            case 28: due("back()", town.back(), naive.back()); break;
            default: a = number(0, 10); due("count(" + a + ")", town.count(a), naive.count(a)); break;
        }
    }

    private static int thing() {
        int[] oftenAsked = {4, 5, 0};
        return below(2) == 0 ? oftenAsked[below(3)] : number(0, 7);
    }

    private static void sets(boolean canvas) {
        int k = number(0, 3);
        if (canvas) {
            due("canvases(" + k + ")", town.canvases(k), naive.canvases(k));
        } else {
            due("least(" + k + ")", town.least(k), naive.least(k));
        }
    }

    /** Mostly what is so, or would be, by which the questions have answers. */
    private static void fined() {
        int d = number(0, 3), f = number(0, 999);
        if (below(4) > 0 && d >= 0 && d <= 3) f = naive.by(d) + (below(2) == 0 ? 0 : below(9) - 4);
        due("fined(" + d + ", " + f + ")", town.fined(d, f), naive.fined(d, f));
    }

    private static void lookAtAll() {
        if (calls + 11 + 6 * naive.count(0) > MOST_CALLS) return;
        for (int what = 0; what <= 10; what++) due("count(" + what + ")", town.count(what), naive.count(what));
        for (int x = 0; x < naive.count(0); x++) {
            for (int what = 0; what <= 5; what++) due("cell(" + x + ", " + what + ")", town.cell(x, what), naive.cell(x, what));
        }
    }
}
