import java.util.ArrayDeque;
import java.util.ArrayList;
import java.util.Deque;
import java.util.List;

/**
 * The whole face said a second time, to be held against the class over long runs of calls: what is kept is kept in
 * lists and Java's own arrays, nothing is worked out ahead, and a shelf's refusals are what Java itself throws.
 */
final class Whole {
    private static final int BAD = -1, NOT = -2, FULL = -3, STATE = -5;

    private record Tree(int[] numbers, boolean[] stands) { }

    private record Change(int[] of, int place, int was, int then) { }

    private record Image(List<Boolean> stood, List<Integer> high, List<Integer> cells, int[] led) { }

    private final List<Tree> trees = new ArrayList<>();
    /** CELL, WISH, WEIGHT. */
    private final List<int[]> people = new ArrayList<>();
    private final int[] low = {9, 8, 6, 4, 3, 2, 2, 3, 4, 6, 8, 9};
    private final StringBuilder tape = new StringBuilder();
    private String law = "w";
    private final Deque<Change> done = new ArrayDeque<>();
    private final Deque<Change> undone = new ArrayDeque<>();
    private final int[] led = new int[5];
    private Image image;
    private final List<JavaVoters.Voter> bodies = new ArrayList<>();
    private List<Integer> trace = new ArrayList<>();
    private final Object[] shelves = new Object[6];

    // ---- trees, people

    int tree(int cell, int high) {
        if (cell < 0 || cell > 255 || high < 1 || high > 9) return BAD;
        if (trees.size() == 6) return FULL;
        trees.add(new Tree(new int[] {cell, high, 1}, new boolean[] {true}));
        return trees.size() - 1;
    }

    int person(int cell, int wish) {
        if (cell < 0 || cell > 255 || wish < 0 || wish > 63) return BAD;
        if (people.size() == 10) return FULL;
        people.add(new int[] {cell, wish, 1});
        return people.size() - 1;
    }

    int people(int shelf, int i, int n) {
        if (shelf < 0 || shelf > 5 || n < 1 || n > 10) return BAD;
        if (shelves[shelf] == null) return 0;
        if (!(shelves[shelf] instanceof short[] row)) return -12;
        for (int came = 0; came < n; came++) {
            try {
                int cell = row[i + 3 * came];
                int wish = row[i + 3 * came + 1];
                int weight = row[i + 3 * came + 2];
                if (weight < 0 || weight > 3 || person(cell, wish) < 0) return came;
                people.get(people.size() - 1)[2] = weight;
            } catch (ArrayIndexOutOfBoundsException ended) {
                return came;
            }
        }
        return n;
    }

    /** The numbers among which one told by mend() and of() lies; null: there is none such. */
    private int[] rowOf(int number, int what) {
        if (number < 0 || what < 0) return null;
        if (what < 3) return number < trees.size() ? trees.get(number).numbers : null;
        if (what == 3) return number < 12 ? low : null;
        return what < 7 && number < people.size() ? people.get(number) : null;
    }

    private static int placeOf(int number, int what) {
        return what < 3 ? what : what == 3 ? number : what - 4;
    }

    int mend(int number, int what, int v) {
        int[] row = rowOf(number, what);
        int[] most = {255, 9, 3, 9, 255, 63, 3};
        if (row == null || v < (what == 1 ? 1 : 0) || v > most[what]) return BAD;
        int was = row[placeOf(number, what)];
        if (was == v) return was;
        row[placeOf(number, what)] = v;
        done.addLast(new Change(row, placeOf(number, what), was, v));
        undone.clear();
        if (done.size() > 40) done.removeFirst();
        return was;
    }

    int of(int number, int what) {
        if (what == 7) return number < 0 || number >= trees.size() ? BAD : trees.get(number).stands[0] ? 1 : 0;
        int[] row = rowOf(number, what);
        return row == null ? BAD : row[placeOf(number, what)];
    }

    int feed(int letter) {
        if (letter < 0 || letter > 255) return BAD;
        if (tape.length() == 120) return FULL;
        tape.append((char) letter);
        return tape.length();
    }

    int law() {
        String text = tape.toString();
        tape.setLength(0);
        int fault = Grammar.fault(text);
        if (fault >= 0) return -100 - fault;
        law = text;
        return 1;
    }

    // ---- votes

    /** Who sits in the shade of a tree so high, whether it stands or not. */
    private int covered(int t, int month, int high) {
        int[] tree = trees.get(t).numbers;
        int who = 0;
        for (int p = 0; p < people.size(); p++) {
            if (inShade(tree, high * low[month] / 3, people.get(p)[0])) who |= 1 << p;
        }
        return who;
    }

    private static boolean inShade(int[] tree, int rows, int cell) {
        int above = tree[0] / 16 - cell / 16;
        int aside = tree[0] % 16 - cell % 16;
        return above > 0 && above <= rows && aside <= tree[2] && -aside <= tree[2];
    }

    private int sitters(int t, int month) {
        return trees.get(t).stands[0] ? covered(t, month, trees.get(t).numbers[1]) : 0;
    }

    private int wishers(int t) {
        int who = 0;
        for (int p = 0; p < people.size(); p++) who |= (people.get(p)[1] >> t & 1) << p;
        return who;
    }

    private int[] worths(int t, int month, int high, int n) {
        int[] worths = new int[people.size()];
        for (int p = 0; p < worths.length; p++) {
            int v = Grammar.value(law, new int[] {people.get(p)[2], high, month, n, t, p});
            worths[p] = v < 0 ? 0 : v > 9 ? 9 : v;
        }
        return worths;
    }

    private static int sum(int[] worths, int set) {
        int sum = 0;
        for (int p = 0; p < worths.length; p++) sum += (set >> p & 1) * worths[p];
        return sum;
    }

    private static boolean carries(int[] worths, int there, int yes) {
        return sum(worths, there & yes) * 2 > sum(worths, there);
    }

    private boolean falls(int t, int month, int high, int there, int yes) {
        return carries(worths(t, month, high, Integer.bitCount(there)), there, yes);
    }

    private boolean falls(int t, int month) {
        return trees.get(t).stands[0] && falls(t, month, high(t), sitters(t, month), wishers(t));
    }

    private int high(int t) {
        return trees.get(t).numbers[1];
    }

    private boolean noTree(int t) {
        return t < 0 || t >= trees.size();
    }

    private boolean noTreeMonth(int tm) {
        return tm < 0 || tm / 100 >= trees.size() || tm % 100 > 11;
    }

    // ---- noons in thought

    int shade(int tm) {
        return noTreeMonth(tm) ? BAD : sitters(tm / 100, tm % 100);
    }

    int votes(int tm, int what) {
        if (noTreeMonth(tm) || what < 0 || what > 3) return BAD;
        int t = tm / 100;
        int there = sitters(t, tm % 100);
        int[] worths = worths(t, tm % 100, high(t), Integer.bitCount(there));
        switch (what) {
            case 0: return sum(worths, there & wishers(t));
            case 1: return sum(worths, there);
            case 2: return falls(t, tm % 100) ? 1 : 0;
            default: return cells(t, tm % 100).size();
        }
    }

    private List<Integer> cells(int t, int month) {
        List<Integer> cells = new ArrayList<>();
        for (int cell = 0; cell < 256; cell++) {
            if (trees.get(t).stands[0] && inShade(trees.get(t).numbers, high(t) * low[month] / 3, cell)) cells.add(cell);
        }
        return cells;
    }

    int falls(int month) {
        if (month < 0 || month > 12) return BAD;
        int bits = 0;
        for (int t = 0; t < trees.size(); t++) {
            if (month == 12 ? first(100 * t) == NOT : falls(t, month)) bits |= 1 << t;
        }
        return bits;
    }

    int first(int tm) {
        if (noTreeMonth(tm)) return BAD;
        for (int m = tm % 100; m < tm % 100 + 12; m++) {
            if (falls(tm / 100, m % 12)) return m % 12;
        }
        return NOT;
    }

    private int standing() {
        int bits = 0;
        for (int t = 0; t < trees.size(); t++) bits |= of(t, 7) << t;
        return bits;
    }

    int left(int month, int n) {
        if (month < 0 || month > 11 || n < 0 || n > 99) return BAD;
        int bits = standing();
        for (int m = month; m < month + Math.min(n, 12); m++) bits &= ~falls(m % 12);
        return bits;
    }

    int turn(int tm, int what) {
        if (noTreeMonth(tm) || what < 0 || what > 1) return BAD;
        int t = tm / 100;
        int there = sitters(t, tm % 100);
        int best = NOT;
        int[][] worths = worthsByN(t, tm % 100);
        for (int set = (1 << people.size()) - 1; set > 0 && trees.get(t).stands[0]; set--) {
            int then = there ^ set;
            if (carries(worths[Integer.bitCount(then)], then, wishers(t)) == falls(t, tm % 100)) continue;
            if (best < 0 || Integer.bitCount(set) <= Integer.bitCount(best)) best = set;
        }
        return what == 0 && best > 0 ? Integer.bitCount(best) : best;
    }

    private int[][] worthsByN(int t, int month) {
        int[][] worths = new int[people.size() + 1][];
        for (int n = 0; n < worths.length; n++) worths[n] = worths(t, month, high(t), n);
        return worths;
    }

    int chair(int tm) {
        if (noTreeMonth(tm)) return BAD;
        int t = tm / 100;
        int there = sitters(t, tm % 100);
        int who = 0;
        for (int p = 0; p < people.size(); p++) {
            if ((there >> p & 1) == 0) continue;
            if (falls(t, tm % 100, high(t), there - (1 << p), wishers(t)) != falls(t, tm % 100)) who |= 1 << p;
        }
        return who;
    }

    long power(int tm, int one, int part) {
        if (noTreeMonth(tm) || one < 0 || one >= people.size() || part < 0 || part > 1) return Long.MIN_VALUE;
        int t = tm / 100;
        int there = sitters(t, tm % 100);
        if ((there >> one & 1) == 0) return part;
        int[] worths = worths(t, tm % 100, high(t), Integer.bitCount(there));
        int ways = 0;
        int all = 0;
        for (int yes = 0; yes < 1024; yes++) {
            if ((yes & ~there) != 0 || (yes >> one & 1) == 1) continue;
            all++;
            if (carries(worths, there, yes) != carries(worths, there, yes + (1 << one))) ways++;
        }
        int by = all;
        while (ways % by != 0 || all % by != 0) by--;
        return (part == 0 ? ways : all) / by;
    }

    int lop(int tm, int what) {
        if (noTreeMonth(tm) || what < 0 || what > 1) return BAD;
        int t = tm / 100;
        if (!trees.get(t).stands[0]) return NOT;
        for (int by = 0; by < 9; by++) {
            int high = high(t) + (what == 0 ? -by : by);
            if (high < 1 || high > 9) return NOT;
            if (falls(t, tm % 100, high, covered(t, tm % 100, high), wishers(t)) == (what == 1)) return by;
        }
        return NOT;
    }

    int byTurns(int tm, int nw) {
        if (noTreeMonth(tm) || nw < 10 || nw > 49 || nw % 10 > 1) return BAD;
        int t = tm / 100;
        int[][] worths = worthsByN(t, tm % 100);
        boolean[] ends = new boolean[1 << people.size()];
        for (int set = 0; set < ends.length; set++) {
            ends[set] = trees.get(t).stands[0] && carries(worths[Integer.bitCount(set)], set, wishers(t));
        }
        int there = sitters(t, tm % 100);
        boolean best = reached(ends, there, nw / 10, true);
        if (nw % 10 == 0) return best ? 1 : 0;
        for (int p = 0; p < people.size(); p++) {
            if (reached(ends, there ^ 1 << p, nw / 10 - 1, false) == best) return p;
        }
        return 10;
    }

    /** Whether it falls, if so many moves are to come and that side (the first: true) is next. */
    private boolean reached(boolean[] ends, int set, int moves, boolean side) {
        if (moves == 0) return ends[set];
        boolean best = reached(ends, set, moves - 1, !side);
        for (int p = 0; p < people.size() && best != side; p++) best = reached(ends, set ^ 1 << p, moves - 1, !side);
        return best;
    }

    int deepest(int tree, int what) {
        if (noTree(tree) || what < 0 || what > 1) return BAD;
        int best = 0;
        for (int m = 11; m >= 0; m--) {
            if (crowd(tree, m) >= crowd(tree, best)) best = m;
        }
        return what == 0 ? best : crowd(tree, best);
    }

    private int crowd(int tree, int month) {
        return Integer.bitCount(sitters(tree, month));
    }

    int shadiest(int month, int what) {
        if (month < 0 || month > 11 || what < 0 || what > 1) return BAD;
        for (int many = trees.size(); many > 0; many--) {
            for (int p = 0; p < people.size(); p++) {
                int shades = 0;
                for (int t = 0; t < trees.size(); t++) shades += sitters(t, month) >> p & 1;
                if (shades == many) return what == 0 ? p : many;
            }
        }
        return what == 0 ? NOT : 0;
    }

    // ---- books, seats

    private static int refusal(Object shelf) {
        return shelf == null ? -11 : -12;
    }

    private int wrongTwo(byte[] book, int tree, int wishers) {
        for (int i = 0; i < book.length; i += 2) {
            if (i + 1 == book.length || book[i] < 0 || book[i] > 11 || book[i + 1] < 0 || book[i + 1] > 1) return i / 2;
            int there = covered(tree, book[i], high(tree));
            if (falls(tree, book[i], high(tree), there, wishers) != (book[i + 1] == 1)) return i / 2;
        }
        return NOT;
    }

    int judge(int shelf, int tree) {
        if (shelf < 0 || shelf > 5 || noTree(tree)) return BAD;
        if (!(shelves[shelf] instanceof byte[] book)) return refusal(shelves[shelf]);
        return wrongTwo(book, tree, wishers(tree));
    }

    int wishes(int shelf, int tree, int what) {
        if (shelf < 0 || shelf > 5 || noTree(tree) || what < 0 || what > 2) return BAD;
        if (!(shelves[shelf] instanceof byte[] book)) return refusal(shelves[shelf]);
        List<Integer> sets = new ArrayList<>();
        for (int set = 0; set < 1 << people.size(); set++) {
            if (wrongTwo(book, tree, set) == NOT) sets.add(set);
        }
        if (what == 0) return sets.size();
        if (sets.isEmpty()) return what == 1 ? NOT : 0;
        return what == 1 ? sets.get(0) : sets.stream().reduce(-1, (a, b) -> a & b);
    }

    int save(int to, int what) {
        if (to < 0 || noTree(to / 100) || to % 100 >= people.size() || what < 0 || what > 1) return BAD;
        int[] one = people.get(to % 100);
        int sat = one[0];
        int[] stood = new int[256];
        int best = 0;
        // A month's vote hangs on his seat only by whether it is in the shade.
        for (int m = 0; m < 12; m++) {
            int[] byIn = {-1, -1};
            for (one[0] = 0; one[0] < 256; one[0]++) {
                int in = sitters(to / 100, m) >> to % 100 & 1;
                if (byIn[in] < 0) byIn[in] = falls(to / 100, m) ? 0 : 1;
                stood[one[0]] += byIn[in];
            }
        }
        one[0] = sat;
        for (int cell = 255; cell >= 0; cell--) best = stood[cell] >= stood[best] ? cell : best;
        return what == 0 ? best : stood[best];
    }

    int alike(int ab, int month) {
        if (ab < 0 || noTree(ab / 10) || noTree(ab % 10) || month < 0 || month > 11) return BAD;
        return cells(ab / 10, month).equals(cells(ab % 10, month)) ? 1 : 0;
    }

    int drawn(int seed, int nc, int tree) {
        if (nc < 100 || nc > 3012 || nc % 100 > 12 || tree != -1 && noTree(tree)) return BAD;
        int z = seed;
        int fell = 0;
        int stood = 0;
        int[] falling = new int[12];
        for (int m = 0; m < 12; m++) falling[m] = falls(m);
        for (int noons = 0, stand = 0; noons < nc / 100 * 12; noons++) {
            if (noons % 12 == 0) stand = standing();
            z = z * 1103515245 + 12345;
            boolean cloudy = (z >>> 8) % 12 < nc % 100;
            int gone = cloudy ? 0 : stand & falling[noons % 12];
            if (tree >= 0) fell += gone >> tree & 1;
            stand -= gone;
            if (noons % 12 == 11) stood += Integer.bitCount(stand);
        }
        return tree < 0 ? stood : fell;
    }

    // ---- in deed

    int noon() {
        int felled = falls(led[4]);
        for (int t = 0; t < trees.size(); t++) {
            if ((felled >> t & 1) == 1) trees.get(t).stands[0] = false;
        }
        led[0]++;
        led[1] += Integer.bitCount(felled);
        led[4] = led[4] == 11 ? 0 : led[4] + 1;
        return felled;
    }

    int sits(int one, int cell) {
        if (one < 0 || one >= people.size() || cell < 0 || cell > 255) return BAD;
        int sat = people.get(one)[0];
        people.get(one)[0] = cell;
        led[2]++;
        return sat;
    }

    int lopped(int tree) {
        if (noTree(tree)) return BAD;
        if (high(tree) == 1 || !trees.get(tree).stands[0]) return STATE;
        led[3]++;
        return --trees.get(tree).numbers[1];
    }

    int led(int what) {
        return what < 0 || what > 4 ? BAD : led[what];
    }

    int image() {
        image = new Image(new ArrayList<>(), new ArrayList<>(), new ArrayList<>(), led.clone());
        for (Tree tree : trees) {
            image.stood.add(tree.stands[0]);
            image.high.add(tree.numbers[1]);
        }
        for (int[] one : people) image.cells.add(one[0]);
        return led[0];
    }

    int back() {
        if (image == null) return STATE;
        for (int t = 0; t < trees.size(); t++) {
            trees.get(t).stands[0] = t >= image.stood.size() || image.stood.get(t);
            if (t < image.high.size()) trees.get(t).numbers[1] = image.high.get(t);
        }
        for (int p = 0; p < image.cells.size(); p++) people.get(p)[0] = image.cells.get(p);
        System.arraycopy(image.led, 0, led, 0, 5);
        return led[0];
    }

    int undo() {
        if (done.isEmpty()) return STATE;
        Change change = done.removeLast();
        change.of[change.place] = change.was;
        undone.addLast(change);
        return done.size();
    }

    int redo() {
        if (undone.isEmpty()) return STATE;
        Change change = undone.removeLast();
        change.of[change.place] = change.then;
        done.addLast(change);
        return undone.size();
    }

    // ---- acts, shelves

    int body(int kind) {
        if (kind < 0 || kind > 7) return BAD;
        if (bodies.size() == 50) return FULL;
        bodies.add(JavaVoters.of(kind, bodies.size()));
        return bodies.size() - 1;
    }

    int act(int body, int act, int x) {
        trace = new ArrayList<>();
        if (body < 0 || body >= bodies.size() || act < 0 || act > 3) return 0;
        JavaVoters.Voter voter = bodies.get(body);
        voter.ran = trace;
        return act == 0 ? voter.sits(x) : act == 1 ? voter.votes(x) : act == 2 ? voter.moves(x) : voter.tells(x);
    }

    int trace(int i) {
        return i < 0 || i >= Math.min(24, trace.size()) ? BAD : trace.get(i);
    }

    int keep(int shelf, int body) {
        if (shelf < 0 || shelf > 5 || body < -1 || body >= bodies.size()) return BAD;
        shelves[shelf] = body < 0 ? null : bodies.get(body);
        return 1;
    }

    int row(int shelf, int sort, int n) {
        if (shelf < 0 || shelf > 5 || sort < 0 || sort > 4 || n > 60) return BAD;
        try {
            switch (sort) {
                case 0: shelves[shelf] = new byte[n]; break;
                case 1: shelves[shelf] = new short[n]; break;
                case 2: shelves[shelf] = new int[n]; break;
                case 3: shelves[shelf] = new long[n]; break;
                default: shelves[shelf] = new boolean[n];
            }
            return 1;
        } catch (NegativeArraySizeException below) {
            return -14;
        }
    }

    int put(int shelf, int i, long v) {
        if (shelf < 0 || shelf > 5) return BAD;
        if (shelves[shelf] == null || shelves[shelf] instanceof JavaVoters.Voter) return refusal(shelves[shelf]);
        try {
            if (shelves[shelf] instanceof byte[] row) row[i] = (byte) v;
            if (shelves[shelf] instanceof short[] row) row[i] = (short) v;
            if (shelves[shelf] instanceof int[] row) row[i] = (int) v;
            if (shelves[shelf] instanceof long[] row) row[i] = v;
            if (shelves[shelf] instanceof boolean[] row) row[i] = v != 0;
            return 1;
        } catch (ArrayIndexOutOfBoundsException noPlace) {
            return -13;
        }
    }

    long element(int shelf, int i) {
        if (shelf < 0 || shelf > 5) return Long.MIN_VALUE;
        try {
            if (shelves[shelf] instanceof byte[] row) return row[i];
            if (shelves[shelf] instanceof short[] row) return row[i];
            if (shelves[shelf] instanceof int[] row) return row[i];
            if (shelves[shelf] instanceof long[] row) return row[i];
            if (shelves[shelf] instanceof boolean[] row) return row[i] ? 1 : 0;
            return Long.MIN_VALUE;
        } catch (ArrayIndexOutOfBoundsException noPlace) {
            return Long.MIN_VALUE;
        }
    }

    int shift(int shelf, int i, int other, int j, int n) {
        if (shelf < 0 || shelf > 5 || other < 0 || other > 5) return BAD;
        try {
            System.arraycopy(shelves[shelf], i, shelves[other], j, n);
            return n;
        } catch (NullPointerException nothing) {
            return -11;
        } catch (ArrayStoreException otherKind) {
            return -12;
        } catch (IndexOutOfBoundsException noPlace) {
            return -13;
        }
    }

    int taken(int shelf, int k) {
        if (shelf < 0 || shelf > 5 || k < 0 || k > 7) return BAD;
        if (shelves[shelf] == null) return -11;
        try {
            return JavaVoters.as(k, shelves[shelf]);
        } catch (ClassCastException otherKind) {
            return -12;
        }
    }

    int count(int what) {
        int[] counts = {trees.size(), people.size(), tape.length(), done.size(), bodies.size(), trace.size()};
        return what < 0 || what > 5 ? BAD : counts[what];
    }
}
