/** A town that was left a fortune on terms that it look as it does in a painting, to a judge's eye. */
public final class PaintedTown {
    public static final int BAD = -1, NO = -2, FULL = -3, NONE = -4;

    private static final int SKY = 0, SMOKE = 4, TREE = 5, KINDS = 8;
    private static final int NOWHERE = 0, UP = 1, RIGHT = 2, LEFT = 3, WINDS = 4;
    private static final int[] SIZES = {0, 4, 3, 2, 2, 3, 1, 2};

    private static final int FEWEST_LINES = 2, MOST_LINES = 6, MOST_CELLS = 36;
    private static final int MOST_LETTERS = 200, MOST_NUMBERS = 4, MOST_TOLD = 99, TEN_DAYS = 10;
    private static final int GROWN = 3, MOST_SMALL = 3, NEAREST = 5;
    private static final int MOST_UNDONE = 8, MOST_KEPT = 2, MOST_FINED = 6, MOST_FINE = 999;
    private static final int MOST_AHEAD = 20, MOST_CHOSEN = 3, MOST_DRAWS = 40, MOST_SEED = 9999;

    private static final String FIRST_TOWN =
        "v4,5;p3,4;p8,1;p9,1;p12,5;p11,2;p13,7;p16,3;p18,1;i3,0;i2,4;i16,0;i17,3;e12;w2;l9;g3,2,4,1;";

    private final Script script = new Script();
    private final Painting painting = new Painting();
    private final Town town = new Town();
    private final Past past = new Past();
    private final Past kept = new Past();
    /** What is only supposed: the judge looks at this one, so that the town itself stays as it is. */
    private final Town trial = new Town();
    private final Judge judge = new Judge(painting, trial);
    private final Search search = new Search(painting, trial, judge);
    private final int[] finedWind = new int[MOST_FINED];
    private final int[] finedSum = new int[MOST_FINED];
    private int finedCount = 0;

    public PaintedTown() {
        for (int i = 0; i < FIRST_TOWN.length(); i++) {
            script.append(FIRST_TOWN.charAt(i));
        }
        layScript();
        script.length = 0;
    }

    // ---- towns

    public int write(int letter) {
        if (letter < 32 || letter > 126) return BAD;
        if (!script.append((char) letter)) return FULL;
        return script.length;
    }

    public int wipe() {
        int was = script.length;
        script.length = 0;
        return was;
    }

    public int fault() {
        return script.read();
    }

    public int lay() {
        return layScript();
    }

    public int cell(int x, int what) {
        if (!painting.has(x) || what < 0 || what > 5) return BAD;
        switch (what) {
            case 0: return painting.should[x];
            case 1: return town.is[x];
            case 2: supposeNow(); return judge.sees(x);
            case 3: supposeNow(); return judge.price(x);
            case 4: return town.age[x];
            default: return town.hung[x] ? 1 : 0;
        }
    }

    public int fine(int what) {
        if (what < 0 || what > 2) return BAD;
        supposeNow();
        int sum = judge.sumUp();
        if (what == 0) return sum;
        return what == 1 ? bit(sum <= painting.limit) : judge.wrong;
    }

    // ---- changes

    public int mend(int x) {
        if (!painting.has(x)) return BAD;
        int due = painting.should[x];
        if (town.is[x] == due) return NO;
        past.push(town);
        town.place(x, due, 0);
        return sizeOf(due);
    }

    public int put(int x, int k) {
        if (!painting.has(x) || k < 0 || k >= KINDS) return BAD;
        int was = town.is[x];
        if (was == k) return NO;
        past.push(town);
        town.place(x, k, 0);
        return was;
    }

    public int lop() {
        past.push(town);
        return town.cutTrees();
    }

    public int canvas(int x) {
        if (!painting.has(x)) return BAD;
        past.push(town);
        town.hung[x] = !town.hung[x];
        return bit(town.hung[x]);
    }

    public int wind(int d) {
        if (d < 0 || d >= WINDS) return BAD;
        past.push(town);
        int was = town.wind;
        town.wind = d;
        return was;
    }

    public int eye(int x) {
        if (!painting.has(x)) return BAD;
        past.push(town);
        int was = town.eye;
        town.eye = x;
        return was;
    }

    public int pass(int n) {
        if (n < 1 || n > MOST_AHEAD) return BAD;
        past.push(town);
        town.goBy(n);
        return town.years;
    }

    public int undo() {
        if (!past.pop(town)) return NO;
        return past.count;
    }

    // ---- what comes

    public int behind(int n, int what) {
        if (n < 0 || n > MOST_AHEAD || what < 0 || what > 1) return BAD;
        int sum = sumBehind(n);
        return what == 0 ? sum : bit(sum <= painting.limit);
    }

    public int until() {
        for (int n = 0; n <= MOST_AHEAD; n++) {
            if (sumBehind(n) > painting.limit) return n;
        }
        return NONE;
    }

    public int least(int k) {
        if (k < 0 || k > MOST_CHOSEN) return BAD;
        supposeNow();
        search.start(false);
        search.extend(0, 0, 0);
        return k == 0 ? search.leastCost() : search.chosenCell(k);
    }

    public int canvases(int k) {
        if (k < 0 || k > MOST_CHOSEN) return BAD;
        supposeNow();
        search.start(true);
        search.extend(0, 0, 0);
        return k == 0 ? search.leastCount() : search.chosenCell(k);
    }

    public int never(int row) {
        if (row < 0 || row >= painting.rows) return BAD;
        supposeNow();
        int cells = painting.cells();
        for (int x = 0; x < cells && x < MOST_CELLS; x++) {
            int due = painting.should[x];
            if (trial.is[x] != due) trial.place(x, due, 0);
        }
        int bits = 0;
        for (int column = 0; column < painting.columns; column++) {
            if (judge.price(row * painting.columns + column) > 0) bits |= 1 << column;
        }
        return bits;
    }

    // ---- what was fined

    public int fined(int d, int f) {
        if (d < 0 || d >= WINDS || f < 0 || f > MOST_FINE) return BAD;
        if (finedCount < 0 || finedCount >= MOST_FINED) return FULL;
        finedWind[finedCount] = d;
        finedSum[finedCount] = f;
        finedCount++;
        return finedCount;
    }

    public int forget() {
        int was = finedCount;
        finedCount = 0;
        return was;
    }

    public int moved(int what) {
        if (what < 0 || what > 1) return BAD;
        supposeNow();
        int cells = painting.cells(), count = 0, first = NONE;
        for (int a = 0; a < cells && a < MOST_CELLS; a++) {
            for (int b = a + 1; b < cells && b < MOST_CELLS; b++) {
                if (trial.is[a] == trial.is[b]) continue;
                trial.exchange(a, b);
                if (allIsSo()) {
                    if (count == 0) first = 100 * a + b;
                    count++;
                }
                trial.exchange(a, b);
            }
        }
        return what == 0 ? count : first;
    }

    public int frames(int what) {
        if (what < 0 || what > 1) return BAD;
        supposeNow();
        int count = 0, lowest = NONE;
        for (int x = 0; x < painting.cells(); x++) {
            trial.eye = x;
            if (!allIsSo()) continue;
            if (count == 0) lowest = x;
            count++;
        }
        return what == 0 ? count : lowest;
    }

    public int copy(int x) {
        if (!painting.has(x)) return BAD;
        supposeNow();
        int due = painting.should[x], bits = 0;
        for (int k = 0; k < KINDS; k++) {
            painting.should[x] = k;
            if (allIsSo()) bits |= 1 << k;
        }
        painting.should[x] = due;
        return bits;
    }

    // ---- winds, years

    public int by(int d) {
        if (d < 0 || d >= WINDS) return BAD;
        return sumBy(d);
    }

    public int chance(int part) {
        if (part < 0 || part > 1) return BAD;
        int days = 0;
        for (int d = 0; d < WINDS; d++) {
            if (sumBy(d) <= painting.limit) days += painting.days[d];
        }
        int shared = commonDivisor(days, TEN_DAYS);
        if (shared < 1) return NONE;
        return (part == 0 ? days : TEN_DAYS) / shared;
    }

    public int year(int z, int n, int what) {
        if (z < 0 || z > MOST_SEED || n < 1 || n > MOST_DRAWS || what < 0 || what > 1) return BAD;
        supposeNow();
        int passes = 0, sums = 0;
        for (int k = 0; k < n; k++) {
            liveThrough(draw(z, k));
            int sum = judge.sumUp();
            if (sum <= painting.limit) passes++;
            sums += sum;
        }
        return what == 0 ? passes : sums;
    }

    public int keep() {
        if (kept.count >= MOST_KEPT) return FULL;
        kept.push(town);
        return kept.count;
    }

    public int back() {
        if (!kept.pop(town)) return NO;
        past.forgetAll();
        return kept.count;
    }

    public int count(int what) {
        switch (what) {
            case 0: return painting.cells();
            case 1: return painting.rows;
            case 2: return town.canvasCount();
            case 3: return town.years;
            case 4: return town.wind;
            case 5: return town.eye;
            case 6: return painting.limit;
            case 7: return finedCount;
            case 8: return past.count;
            case 9: return kept.count;
            case 10: return script.length;
            default: return BAD;
        }
    }

    private int layScript() {
        if (script.length == 0 || script.read() != NONE) return NO;
        if (!script.painting.has(script.town.eye)) return NO;
        painting.become(script.painting);
        town.become(script.town);
        past.forgetAll();
        kept.forgetAll();
        finedCount = 0;
        return painting.cells();
    }

    private void supposeNow() {
        trial.become(town);
    }

    private int sumBehind(int n) {
        supposeNow();
        trial.goBy(n);
        return judge.sumUp();
    }

    private int sumBy(int d) {
        supposeNow();
        trial.wind = d;
        return judge.sumUp();
    }

    /** Whether all that was FINED is so in the trial; its WIND is another one then. */
    private boolean allIsSo() {
        for (int i = 0; i < finedCount && i < MOST_FINED; i++) {
            trial.wind = finedWind[i];
            if (judge.sumUp() != finedSum[i]) return false;
        }
        return true;
    }

    private void liveThrough(int draw) {
        int cells = painting.cells();
        if (cells < 1) return;
        int x = draw % cells;
        int k = draw / 8 % KINDS;
        if (painting.has(x) && trial.is[x] != k) trial.place(x, k, 0);
        trial.goBy(1);
        trial.wind = draw / 64 % WINDS;
    }

    private static int draw(int z, int k) {
        long x = 7919L * z + 6151L * k + 1L;
        return (int) (x * x % 65521L / 2L);
    }

    private static int commonDivisor(int a, int b) {
        for (int d = b; d > 1; d--) {
            if (a % d == 0 && b % d == 0) return d;
        }
        return 1;
    }

    private static int bit(boolean holds) {
        return holds ? 1 : 0;
    }

    private static int sizeOf(int k) {
        return k >= 0 && k < SIZES.length ? SIZES[k] : 0;
    }

    /** What stays from one lay() to the next: the VIEW, what SHOULD be there, and the terms. */
    private static final class Painting {
        int rows, columns, limit;
        final int[] should = new int[MOST_CELLS];
        final int[] days = new int[WINDS];

        void clear() {
            rows = 4;
            columns = 5;
            limit = 10;
            for (int x = 0; x < MOST_CELLS; x++) should[x] = SKY;
            for (int d = 0; d < WINDS; d++) days[d] = d == NOWHERE ? TEN_DAYS : 0;
        }

        void become(Painting other) {
            rows = other.rows;
            columns = other.columns;
            limit = other.limit;
            for (int x = 0; x < MOST_CELLS; x++) should[x] = other.should[x];
            for (int d = 0; d < WINDS; d++) days[d] = other.days[d];
        }

        int cells() {
            return rows * columns;
        }

        /** Tests the room in the rows of CELLS too, so that what it lets through is an index of them. */
        boolean has(int x) {
            return x >= 0 && x < rows * columns && x < MOST_CELLS;
        }

        /** The CELL from which the WIND goes to x; no CELL of the VIEW: it comes from outside. */
        int windward(int x, int wind) {
            if (columns < 1) return x;
            switch (wind) {
                case UP: return x + columns;
                case RIGHT: return x % columns > 0 ? x - 1 : NONE;
                case LEFT: return x % columns < columns - 1 ? x + 1 : NONE;
                default: return x;
            }
        }

        /** Rows and columns together between two CELLS. */
        int distance(int x, int y) {
            if (columns < 1) return 0;
            return Math.abs(x / columns - y / columns) + Math.abs(x % columns - y % columns);
        }
    }

    /** What changes; an age is kept at 0 where no TREE is. */
    private static final class Town {
        final int[] is = new int[MOST_CELLS];
        final int[] age = new int[MOST_CELLS];
        final boolean[] hung = new boolean[MOST_CELLS];
        int wind, eye, years;

        void clear() {
            for (int x = 0; x < MOST_CELLS; x++) {
                is[x] = SKY;
                age[x] = 0;
                hung[x] = false;
            }
            wind = NOWHERE;
            eye = 0;
            years = 0;
        }

        void become(Town other) {
            for (int x = 0; x < MOST_CELLS; x++) {
                is[x] = other.is[x];
                age[x] = other.age[x];
                hung[x] = other.hung[x];
            }
            wind = other.wind;
            eye = other.eye;
            years = other.years;
        }

        void place(int x, int k, int old) {
            if (x < 0 || x >= MOST_CELLS) return;
            is[x] = k;
            age[x] = old;
        }

        void exchange(int a, int b) {
            if (a < 0 || a >= MOST_CELLS || b < 0 || b >= MOST_CELLS) return;
            int thing = is[a], old = age[a];
            place(a, is[b], age[b]);
            place(b, thing, old);
        }

        void goBy(int n) {
            years += n;
            for (int x = 0; x < MOST_CELLS; x++) {
                if (is[x] == TREE) age[x] += n;
            }
        }

        /** LOPS all TREES: how many were grown. */
        int cutTrees() {
            int grown = 0;
            for (int x = 0; x < MOST_CELLS; x++) {
                if (age[x] >= GROWN) grown++;
                age[x] = 0;
            }
            return grown;
        }

        int canvasCount() {
            int count = 0;
            for (int x = 0; x < MOST_CELLS; x++) {
                if (hung[x]) count++;
            }
            return count;
        }
    }

    /** Looks at one town: what he SEES, and THE FINE, kept up as single CELLS change. */
    private static final class Judge {
        final Painting painting;
        final Town town;
        final int[] cost = new int[MOST_CELLS];
        int small = 0, large = 0, wrong = 0;

        Judge(Painting painting, Town town) {
            this.painting = painting;
            this.town = town;
        }

        int sees(int x) {
            if (!painting.has(x)) return SKY;
            if (town.hung[x]) return painting.should[x];
            int thing = town.is[x];
            if (thing != SKY && thing != SMOKE) return thing;
            int below = x + painting.columns;
            if (painting.has(below) && town.is[below] == TREE && town.age[below] >= GROWN) return TREE;
            int from = painting.windward(x, town.wind);
            return painting.has(from) && town.is[from] == SMOKE ? SMOKE : SKY;
        }

        /** What a CELL costs; 0: it is not WRONG. */
        int price(int x) {
            if (!painting.has(x)) return 0;
            int due = painting.should[x], seen = sees(x);
            if (seen == due) return 0;
            int size = Math.max(sizeOf(seen), sizeOf(due));
            return size * Math.max(1, NEAREST - painting.distance(x, town.eye));
        }

        /** Looks at all CELLS anew: THE FINE. */
        int sumUp() {
            small = 0;
            large = 0;
            wrong = 0;
            for (int x = 0; x < MOST_CELLS; x++) cost[x] = 0;
            for (int x = 0; x < painting.cells(); x++) look(x);
            return sum();
        }

        int sum() {
            return large + small / 3;
        }

        /** Looks at one CELL again, behind a change in it or beside it. */
        void look(int x) {
            if (!painting.has(x)) return;
            tally(cost[x], -1);
            cost[x] = price(x);
            tally(cost[x], 1);
        }

        void tally(int price, int sign) {
            if (price == 0) return;
            wrong += sign;
            if (price <= MOST_SMALL) {
                small += sign * price;
            } else {
                large += sign * price;
            }
        }
    }

    /** Goes through the sets of CELLS to be MENDED, or behind CANVAS, by which the trial PASSES. */
    private static final class Search {
        final Painting painting;
        final Town town;
        final Judge judge;
        final int[] chosen = new int[MOST_CHOSEN];
        final int[] best = new int[MOST_CHOSEN];
        boolean byCanvas = false, found = false;
        int bestCost = 0, bestCount = 0;

        Search(Painting painting, Town town, Judge judge) {
            this.painting = painting;
            this.town = town;
            this.judge = judge;
        }

        void start(boolean canvas) {
            byCanvas = canvas;
            found = false;
            judge.sumUp();
        }

        int leastCost() {
            return found ? bestCost : NONE;
        }

        int leastCount() {
            return found ? bestCount : NONE;
        }

        int chosenCell(int k) {
            return found && k >= 1 && k <= bestCount && k <= MOST_CHOSEN ? best[k - 1] : NONE;
        }

        /**
         * Sets of one size come in their order here, so a later one must be better to count;
         * adding to a set that is not better can't make it better.
         */
        private void extend(int from, int count, int cost) {
            if (!isBetter(cost, count)) return;
            if (judge.sum() <= painting.limit) {
                take(count, cost);
                return;
            }
            addEach(from, count, cost);
        }

        private void addEach(int from, int count, int cost) {
            if (from < 0 || count < 0 || count >= MOST_CHOSEN) return;
            int cells = painting.cells();
            for (int x = from; x < cells && x < MOST_CELLS; x++) {
                int due = painting.should[x], thing = town.is[x], old = town.age[x];
                if (byCanvas ? town.hung[x] : thing == due) continue;
                chosen[count] = x;
                change(x, true, due, 0);
                extend(x + 1, count + 1, byCanvas ? 0 : cost + sizeOf(due));
                change(x, false, thing, old);
            }
        }

        /** A change is seen in its own CELL, above it (a TREE), and where the WIND may bring SMOKE. */
        private void change(int x, boolean hung, int thing, int old) {
            if (!painting.has(x)) return;
            if (byCanvas) {
                town.hung[x] = hung;
            } else {
                town.place(x, thing, old);
            }
            judge.look(x);
            judge.look(x - painting.columns);
            judge.look(x - 1);
            judge.look(x + 1);
        }

        private boolean isBetter(int cost, int count) {
            return !found || cost < bestCost || cost == bestCost && count < bestCount;
        }

        private void take(int count, int cost) {
            found = true;
            bestCost = cost;
            bestCount = count;
            for (int i = 0; i < count && i < MOST_CHOSEN; i++) best[i] = chosen[i];
        }
    }

    /** The towns as they were, the latest on top; what lies deeper than the last 8 is lost. */
    private static final class Past {
        /** A place is filled when it is first needed, and used again then. */
        final Town[] towns = new Town[MOST_UNDONE];
        int top = 0, count = 0;

        void forgetAll() {
            top = 0;
            count = 0;
        }

        void push(Town town) {
            if (top < 0 || top >= MOST_UNDONE) return;
            if (towns[top] == null) towns[top] = new Town();
            towns[top].become(town);
            top = top + 1 < MOST_UNDONE ? top + 1 : 0;
            if (count < MOST_UNDONE) count++;
        }

        /** The town becomes what is on top, which is there no more then. */
        boolean pop(Town town) {
            int last = top > 0 && top < MOST_UNDONE ? top - 1 : MOST_UNDONE - 1;
            if (count < 1 || towns[last] == null) return false;
            town.become(towns[last]);
            top = last;
            count--;
            return true;
        }
    }

    /** THE TEXT, and the painting and the town that it draws. */
    private static final class Script {
        final char[] letters = new char[MOST_LETTERS];
        int length = 0;
        final Painting painting = new Painting();
        final Town town = new Town();
        private final int[] numbers = new int[MOST_NUMBERS];
        private int told = 0;
        private boolean viewIsOver = false;

        boolean append(char letter) {
            if (length < 0 || length >= MOST_LETTERS) return false;
            letters[length] = letter;
            length++;
            return true;
        }

        /** Draws anew what THE TEXT tells: FAULT, or NONE. */
        int read() {
            painting.clear();
            town.clear();
            viewIsOver = false;
            int at = 0;
            for (int item = 0; item < MOST_LETTERS && at < length; item++) {
                int end = readNumbers(at + 1);
                if (end == NONE || !take(letterAt(at))) return at;
                at = end;
            }
            return NONE;
        }

        private int letterAt(int at) {
            return at >= 0 && at < length && at < MOST_LETTERS ? letters[at] : 0;
        }

        /** Reads numbers from there on: the place behind their ; or NONE. */
        private int readNumbers(int from) {
            int at = from;
            for (int n = 0; n < MOST_NUMBERS; n++) {
                if (!isFigure(letterAt(at))) return NONE;
                int number = letterAt(at) - '0';
                at++;
                if (isFigure(letterAt(at))) {
                    number = 10 * number + letterAt(at) - '0';
                    at++;
                }
                numbers[n] = number;
                told = n + 1;
                int mark = letterAt(at);
                at++;
                if (mark == ';') return at;
                if (mark != ',') return NONE;
            }
            return NONE;
        }

        private static boolean isFigure(int letter) {
            return letter >= '0' && letter <= '9';
        }

        /** Draws the ITEM of that letter and of the numbers read; false: it is not so. */
        private boolean take(int letter) {
            if (letter == 'v') return takeView();
            viewIsOver = true;
            switch (letter) {
                case 'p': return takeThing(true);
                case 'i': return takeThing(false);
                case 'g': return takeDays();
                case 'e':
                    town.eye = numbers[0];
                    return told == 1 && numbers[0] <= MOST_TOLD;
                case 'w':
                    town.wind = numbers[0];
                    return told == 1 && numbers[0] < WINDS;
                case 'l':
                    painting.limit = numbers[0];
                    return told == 1 && numbers[0] <= MOST_TOLD;
                default: return false;
            }
        }

        private boolean takeView() {
            if (viewIsOver || told != 2) return false;
            int rows = numbers[0], columns = numbers[1];
            if (rows < FEWEST_LINES || rows > MOST_LINES) return false;
            if (columns < FEWEST_LINES || columns > MOST_LINES) return false;
            painting.rows = rows;
            painting.columns = columns;
            return true;
        }

        private boolean takeThing(boolean isPainted) {
            int x = numbers[0], k = numbers[1];
            if (told != 2 || !painting.has(x) || k >= KINDS) return false;
            if (isPainted) painting.should[x] = k;
            town.place(x, k, 0);
            return true;
        }

        private boolean takeDays() {
            if (told != WINDS) return false;
            int sum = 0;
            for (int d = 0; d < WINDS && d < MOST_NUMBERS; d++) sum += numbers[d];
            if (sum != TEN_DAYS) return false;
            for (int d = 0; d < WINDS && d < MOST_NUMBERS; d++) painting.days[d] = numbers[d];
            return true;
        }
    }
}
