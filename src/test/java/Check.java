/** Counts what the calls answer against what is due, and ends a test with exit code 1 if one is wrong. */
final class Check {
    static final int BAD = -1, NO = -2, FULL = -3, NONE = -4;

    private int right = 0, wrong = 0;

    void due(String call, long got, long want) {
        if (got == want) {
            right++;
            return;
        }
        wrong++;
        if (wrong <= 40) System.out.println(call + " answered " + got + ", due is " + want);
    }

    void end() {
        System.out.println(right + " as due, " + wrong + " not");
        if (wrong > 0 || right == 0) System.exit(1);
    }

    static void write(PaintedTown town, String text) {
        for (int i = 0; i < text.length(); i++) town.write(text.charAt(i));
    }

    /** A new object in which that text is laid. */
    PaintedTown laid(String text) {
        PaintedTown town = new PaintedTown();
        write(town, text);
        if (town.lay() < 0) due("lay of " + text, 0, 1);
        return town;
    }

    /** All that can be asked without a change, as one row of numbers. */
    static String look(PaintedTown town) {
        StringBuilder row = new StringBuilder();
        for (int what = 0; what <= 9; what++) row.append(town.count(what)).append(' ');
        for (int x = 0; x < town.count(0); x++) {
            row.append('|');
            for (int what = 0; what <= 5; what++) row.append(town.cell(x, what)).append(' ');
        }
        row.append("| ");
        for (int d = 0; d <= 3; d++) row.append(town.by(d)).append(' ');
        row.append(town.chance(0)).append('/').append(town.chance(1)).append(' ');
        row.append(town.frames(0)).append(' ').append(town.moved(0));
        return row.toString();
    }

    void same(String call, PaintedTown town, String before) {
        String now = look(town);
        if (!now.equals(before)) System.out.println("was " + before + "\nnow " + now);
        due(call + " changes nothing", now.equals(before) ? 1 : 0, 1);
    }
}
