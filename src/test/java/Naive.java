import java.util.ArrayList;
import java.util.List;
import java.util.regex.Matcher;
import java.util.regex.Pattern;

/** The document word by word, slowly: each question looks at the whole VIEW anew, each change copies all. */
final class Naive {
    private static final int BAD = -1, NO = -2, FULL = -3, NONE = -4;
    private static final int[] SIZE = {0, 4, 3, 2, 2, 3, 1, 2};
    private static final Pattern ITEM = Pattern.compile("([vpiewlg])([0-9]{1,2}(?:,[0-9]{1,2})*);");

    /** Things and ages by row and column; copied whole. */
    private static final class State implements Cloneable {
        int rows = 4, columns = 5, limit = 10, wind = 0, eye = 0, years = 0;
        int[] days = {10, 0, 0, 0};
        int[][] should = new int[6][6], is = new int[6][6], age = new int[6][6];
        boolean[][] hung = new boolean[6][6];

        State copy() {
            State other = new State();
            other.rows = rows;
            other.columns = columns;
            other.limit = limit;
            other.wind = wind;
            other.eye = eye;
            other.years = years;
            other.days = days.clone();
            for (int r = 0; r < 6; r++) {
                other.should[r] = should[r].clone();
                other.is[r] = is[r].clone();
                other.age[r] = age[r].clone();
                other.hung[r] = hung[r].clone();
            }
            return other;
        }

        int cells() {
            return rows * columns;
        }

        int row(int x) {
            return x / columns;
        }

        int column(int x) {
            return x % columns;
        }

        boolean isAt(int r, int c, int k) {
            return r >= 0 && c >= 0 && r < rows && c < columns && is[r][c] == k;
        }

        int sees(int r, int c) {
            if (hung[r][c]) return should[r][c];
            if (is[r][c] != 0 && is[r][c] != 4) return is[r][c];
            if (isAt(r + 1, c, 5) && age[r + 1][c] >= 3) return 5;
            boolean smoke = false;
            if (wind == 0) smoke = isAt(r, c, 4);
            if (wind == 1) smoke = isAt(r + 1, c, 4);
            if (wind == 2) smoke = isAt(r, c - 1, 4);
            if (wind == 3) smoke = isAt(r, c + 1, 4);
            return smoke ? 4 : 0;
        }

        int cost(int r, int c) {
            int seen = sees(r, c), due = should[r][c];
            if (seen == due) return 0;
            int far = Math.abs(r - row(eye)) + Math.abs(c - column(eye));
            return Math.max(SIZE[seen], SIZE[due]) * Math.max(1, 5 - far);
        }

        int fine() {
            int small = 0, others = 0;
            for (int r = 0; r < rows; r++) {
                for (int c = 0; c < columns; c++) {
                    if (cost(r, c) <= 3) small += cost(r, c); else others += cost(r, c);
                }
            }
            return small / 3 + others;
        }

        boolean passes() {
            return fine() <= limit;
        }

        void put(int x, int k, int old) {
            is[row(x)][column(x)] = k;
            age[row(x)][column(x)] = old;
        }

        int thing(int x) {
            return is[row(x)][column(x)];
        }

        int due(int x) {
            return should[row(x)][column(x)];
        }

        int old(int x) {
            return age[row(x)][column(x)];
        }

        State behind(int n) {
            State later = copy();
            later.years += n;
            for (int x = 0; x < cells(); x++) {
                if (thing(x) == 5) later.age[row(x)][column(x)] += n;
            }
            return later;
        }

        State withWind(int d) {
            State other = copy();
            other.wind = d;
            return other;
        }
    }

    private State now = new State();
    private String text = "";
    private final List<State> past = new ArrayList<>(), kept = new ArrayList<>();
    private final List<int[]> told = new ArrayList<>();

    Naive() {
        text = "v4,5;p3,4;p8,1;p9,1;p12,5;p11,2;p13,7;p16,3;p18,1;i3,0;i2,4;i16,0;i17,3;e12;w2;l9;g3,2,4,1;";
        lay();
        text = "";
    }

    private boolean cellIs(int x) {
        return x >= 0 && x < now.cells();
    }

    private static boolean within(int n, int lowest, int highest) {
        return n >= lowest && n <= highest;
    }

    int write(int letter) {
        if (!within(letter, 32, 126)) return BAD;
        if (text.length() == 200) return FULL;
        text += (char) letter;
        return text.length();
    }

    int wipe() {
        int was = text.length();
        text = "";
        return was;
    }

    /** Draws THE TEXT into a State: FAULT, or NONE. */
    private int draw(State state) {
        Matcher matcher = ITEM.matcher(text);
        int at = 0;
        boolean onlyViews = true;
        while (at < text.length()) {
            if (!matcher.find(at) || matcher.start() != at) return at;
            String[] parts = matcher.group(2).split(",");
            int[] n = new int[parts.length];
            for (int i = 0; i < n.length; i++) n[i] = Integer.parseInt(parts[i]);
            char letter = matcher.group(1).charAt(0);
            int due = letter == 'g' ? 4 : letter == 'v' || letter == 'p' || letter == 'i' ? 2 : 1;
            if (n.length != due) return at;
            switch (letter) {
                case 'v':
                    if (!onlyViews || !within(n[0], 2, 6) || !within(n[1], 2, 6)) return at;
                    state.rows = n[0];
                    state.columns = n[1];
                    break;
                case 'p':
                    if (n[0] >= state.cells() || n[1] > 7) return at;
                    state.should[state.row(n[0])][state.column(n[0])] = n[1];
                    state.put(n[0], n[1], 0);
                    break;
                case 'i':
                    if (n[0] >= state.cells() || n[1] > 7) return at;
                    state.put(n[0], n[1], 0);
                    break;
                case 'e':
                    state.eye = n[0];
                    break;
                case 'w':
                    if (n[0] > 3) return at;
                    state.wind = n[0];
                    break;
                case 'l':
                    state.limit = n[0];
                    break;
                default:
                    if (n[0] + n[1] + n[2] + n[3] != 10) return at;
                    state.days = n;
                    break;
            }
            if (letter != 'v') onlyViews = false;
            at = matcher.end();
        }
        return NONE;
    }

    int fault() {
        return draw(new State());
    }

    int lay() {
        State drawn = new State();
        if (text.isEmpty() || draw(drawn) != NONE || drawn.eye >= drawn.cells()) return NO;
        now = drawn;
        past.clear();
        kept.clear();
        told.clear();
        return now.cells();
    }

    int cell(int x, int what) {
        if (!cellIs(x) || !within(what, 0, 5)) return BAD;
        int r = now.row(x), c = now.column(x);
        int[] answers = {now.due(x), now.thing(x), now.sees(r, c), now.cost(r, c), now.old(x), now.hung[r][c] ? 1 : 0};
        return answers[what];
    }

    int fine(int what) {
        if (!within(what, 0, 2)) return BAD;
        int wrong = 0;
        for (int x = 0; x < now.cells(); x++) if (now.sees(now.row(x), now.column(x)) != now.due(x)) wrong++;
        return what == 0 ? now.fine() : what == 1 ? (now.passes() ? 1 : 0) : wrong;
    }

    private void change() {
        past.add(now);
        if (past.size() > 8) past.remove(0);
        now = now.copy();
    }

    int mend(int x) {
        if (!cellIs(x)) return BAD;
        if (now.thing(x) == now.due(x)) return NO;
        change();
        now.put(x, now.due(x), 0);
        return SIZE[now.due(x)];
    }

    int put(int x, int k) {
        if (!cellIs(x) || !within(k, 0, 7)) return BAD;
        if (now.thing(x) == k) return NO;
        int was = now.thing(x);
        change();
        now.put(x, k, 0);
        return was;
    }

    int lop() {
        change();
        int grown = 0;
        for (int x = 0; x < now.cells(); x++) {
            if (now.thing(x) == 5 && now.old(x) >= 3) grown++;
            if (now.thing(x) == 5) now.put(x, 5, 0);
        }
        return grown;
    }

    int canvas(int x) {
        if (!cellIs(x)) return BAD;
        change();
        now.hung[now.row(x)][now.column(x)] ^= true;
        return now.hung[now.row(x)][now.column(x)] ? 1 : 0;
    }

    int wind(int d) {
        if (!within(d, 0, 3)) return BAD;
        change();
        int was = now.wind;
        now.wind = d;
        return was;
    }

    int eye(int x) {
        if (!cellIs(x)) return BAD;
        change();
        int was = now.eye;
        now.eye = x;
        return was;
    }

    int pass(int n) {
        if (!within(n, 1, 20)) return BAD;
        change();
        now = now.behind(n);
        return now.years;
    }

    int undo() {
        if (past.isEmpty()) return NO;
        now = past.remove(past.size() - 1);
        return past.size();
    }

    int behind(int n, int what) {
        if (!within(n, 0, 20) || !within(what, 0, 1)) return BAD;
        return what == 0 ? now.behind(n).fine() : now.behind(n).passes() ? 1 : 0;
    }

    int until() {
        for (int n = 0; n <= 20; n++) if (!now.behind(n).passes()) return n;
        return NONE;
    }

    /** Sets of 0, 1, 2, 3 CELLS, those of one size in their order. */
    private List<int[]> sets() {
        List<int[]> all = new ArrayList<>();
        int n = now.cells();
        all.add(new int[] {});
        for (int a = 0; a < n; a++) all.add(new int[] {a});
        for (int a = 0; a < n; a++) for (int b = a + 1; b < n; b++) all.add(new int[] {a, b});
        for (int a = 0; a < n; a++) {
            for (int b = a + 1; b < n; b++) for (int c = b + 1; c < n; c++) all.add(new int[] {a, b, c});
        }
        return all;
    }

    int least(int k) {
        if (!within(k, 0, 3)) return BAD;
        int[] best = null;
        int least = Integer.MAX_VALUE;
        next:
        for (int[] set : sets()) {
            State mended = now.copy();
            int cost = 0;
            for (int x : set) {
                if (now.thing(x) == now.due(x)) continue next;
                mended.put(x, now.due(x), 0);
                cost += SIZE[now.due(x)];
            }
            if (cost < least && mended.passes()) {
                least = cost;
                best = set;
            }
        }
        if (best == null) return NONE;
        return k == 0 ? least : k <= best.length ? best[k - 1] : NONE;
    }

    int canvases(int k) {
        if (!within(k, 0, 3)) return BAD;
        next:
        for (int[] set : sets()) {
            State hidden = now.copy();
            for (int x : set) {
                if (now.hung[now.row(x)][now.column(x)]) continue next;
                hidden.hung[now.row(x)][now.column(x)] = true;
            }
            if (hidden.passes()) return k == 0 ? set.length : k <= set.length ? set[k - 1] : NONE;
        }
        return NONE;
    }

    int never(int row) {
        if (!within(row, 0, now.rows - 1)) return BAD;
        State ideal = now.copy();
        for (int x = 0; x < now.cells(); x++) {
            boolean treeStays = now.due(x) == 5 && now.thing(x) == 5;
            ideal.put(x, now.due(x), treeStays ? now.old(x) : 0);
        }
        int bits = 0;
        for (int c = 0; c < now.columns; c++) if (ideal.sees(row, c) != ideal.should[row][c]) bits += 1 << c;
        return bits;
    }

    int fined(int d, int f) {
        if (!within(d, 0, 3) || !within(f, 0, 999)) return BAD;
        if (told.size() == 6) return FULL;
        told.add(new int[] {d, f});
        return told.size();
    }

    int forget() {
        int was = told.size();
        told.clear();
        return was;
    }

    private boolean so(State state) {
        for (int[] one : told) if (state.withWind(one[0]).fine() != one[1]) return false;
        return true;
    }

    int moved(int what) {
        if (!within(what, 0, 1)) return BAD;
        List<Integer> twos = new ArrayList<>();
        for (int a = 0; a < now.cells(); a++) {
            for (int b = a + 1; b < now.cells(); b++) {
                if (now.thing(a) == now.thing(b)) continue;
                State other = now.copy();
                other.put(a, now.thing(b), now.old(b));
                other.put(b, now.thing(a), now.old(a));
                if (so(other)) twos.add(100 * a + b);
            }
        }
        return what == 0 ? twos.size() : twos.isEmpty() ? NONE : twos.get(0);
    }

    int frames(int what) {
        if (!within(what, 0, 1)) return BAD;
        List<Integer> eyes = new ArrayList<>();
        for (int x = 0; x < now.cells(); x++) {
            State other = now.copy();
            other.eye = x;
            if (so(other)) eyes.add(x);
        }
        return what == 0 ? eyes.size() : eyes.isEmpty() ? NONE : eyes.get(0);
    }

    int copy(int x) {
        if (!cellIs(x)) return BAD;
        int bits = 0;
        for (int k = 0; k < 8; k++) {
            State other = now.copy();
            other.should[now.row(x)][now.column(x)] = k;
            if (so(other)) bits += 1 << k;
        }
        return bits;
    }

    int by(int d) {
        return within(d, 0, 3) ? now.withWind(d).fine() : BAD;
    }

    int chance(int part) {
        if (!within(part, 0, 1)) return BAD;
        int above = 0, below = 10;
        for (int d = 0; d < 4; d++) if (now.withWind(d).passes()) above += now.days[d];
        int[] primes = {2, 5};
        for (int p : primes) {
            if (above % p == 0) {
                above /= p;
                below /= p;
            }
        }
        return part == 0 ? above : below;
    }

    int year(int z, int n, int what) {
        if (!within(z, 0, 9999) || !within(n, 1, 40) || !within(what, 0, 1)) return BAD;
        State state = now.copy();
        int passes = 0, sum = 0;
        for (int k = 0; k < n; k++) {
            long x = 7919L * z + 6151L * k + 1;
            int draw = (int) (x * x % 65521) / 2;
            int cell = draw % state.cells(), thing = draw / 8 % 8;
            if (state.thing(cell) != thing) state.put(cell, thing, 0);
            state = state.behind(1);
            state.wind = draw / 64 % 4;
            if (state.passes()) passes++;
            sum += state.fine();
        }
        return what == 0 ? passes : sum;
    }

    int keep() {
        if (kept.size() == 2) return FULL;
        kept.add(now.copy());
        return kept.size();
    }

    int back() {
        if (kept.isEmpty()) return NO;
        now = kept.remove(kept.size() - 1);
        past.clear();
        return kept.size();
    }

    int count(int what) {
        if (!within(what, 0, 10)) return BAD;
        int canvases = 0;
        for (boolean[] row : now.hung) for (boolean one : row) if (one) canvases++;
        int[] answers = {
            now.cells(), now.rows, canvases, now.years, now.wind, now.eye, now.limit,
            told.size(), past.size(), kept.size(), text.length()
        };
        return answers[what];
    }
}
