import java.util.Random;

/** Long runs of calls of the whole face by draws from fixed seeds, each answer held against Whole's. */
public final class RunsTest {
    private static final Check C = new Check("RunsTest");
    private static final int RUNS = 600, CALLS = 512;
    private static final int[] EDGES = {
        Integer.MIN_VALUE, -1000000, -101, -100, -12, -3, -2, -1, 6, 10, 12, 13, 60, 61, 64, 100, 112, 256, 600, 3013,
        65536, Integer.MAX_VALUE
    };
    private static final String LETTERS = "whmntp0123456789|&<=>+-*/%!();?";
    private static final String[] LAWS = {
        "w", "9", "0", "n", "p+1", "w*h/3", "n>2?w;p%3", "n=2?p;w+1", "(h>m)*w+(t=p)", "m<6&p>1|!w", "w-n+4", "-w", "n%0",
        "n<4?9-w*3;p%2=0?w;!w*3", "h-m?w;2", "0?9", "9999*9999*w%7", "--w+!!n", "((((((w))))))", "!!!!!!w", "-(-(-w))+1"
    };

    private final Random draws;
    private final ShadeVotes x = new ShadeVotes();
    private final Whole due = new Whole();
    private final int run;
    private int calls;

    private RunsTest(int run) {
        this.run = run;
        draws = new Random(run * 77L + 5);
    }

    public static void main(String[] args) {
        for (int run = 0; run < RUNS; run++) new RunsTest(run).go();
        C.end();
    }

    private void is(String call, long got, long want) {
        calls++;
        C.is("run " + run + ", call " + calls + ", " + call, got, want);
    }

    private void go() {
        int people = draws.nextInt(11);
        int trees = draws.nextInt(7);
        for (int k = 0; k < trees; k++) tree();
        for (int k = 0; k < people; k++) person();
        while (calls < CALLS - 130) {
            int part = draws.nextInt(20);
            if (part < 9) thought(draws.nextInt(14));
            else if (part < 12) seats(draws.nextInt(6));
            else if (part < 15) deeds(draws.nextInt(9));
            else if (part < 18) acts(draws.nextInt(10));
            else if (part < 19) land(draws.nextInt(6));
            else if (draws.nextInt(8) > 0) mend();
            else manyChanges();
        }
    }

    private int any(int below) {
        int kind = draws.nextInt(60);
        if (kind == 0) return EDGES[draws.nextInt(EDGES.length)];
        if (kind == 1) return below;
        return draws.nextInt(below);
    }

    private int anyTree() {
        return any(Math.max(1, due.count(0)));
    }

    private int anyOne() {
        return any(Math.max(1, due.count(1)));
    }

    private int anyTm() {
        return 100 * anyTree() + any(12);
    }

    // ---- what there is

    private void tree() {
        int cell = draws.nextInt(30) == 0 ? any(256) : 16 * (8 + draws.nextInt(8)) + 4 + draws.nextInt(6);
        int high = 1 + any(9);
        is("tree(" + cell + ", " + high + ")", x.tree(cell, high), due.tree(cell, high));
    }

    private int seat() {
        return draws.nextInt(8) == 0 ? any(256) : 16 * (4 + draws.nextInt(10)) + 4 + draws.nextInt(6);
    }

    private void person() {
        int cell = seat();
        int wish = any(64);
        is("person(" + cell + ", " + wish + ")", x.person(cell, wish), due.person(cell, wish));
    }

    private void mend() {
        int what = any(7);
        int number = what < 3 ? anyTree() : what == 3 ? any(12) : anyOne();
        int[] below = {256, 10, 4, 10, 256, 64, 4};
        int v = what == 4 ? seat() : any(what < 0 || what > 6 ? 10 : below[what]);
        is("mend(" + number + ", " + what + ", " + v + ")", x.mend(number, what, v), due.mend(number, what, v));
    }

    /** More changes than are kept, then back and forth among them. */
    private void manyChanges() {
        for (int k = 0; k < 44; k++) mend();
        int undone = draws.nextInt(60);
        for (int k = 0; k < undone; k++) is("undo()", x.undo(), due.undo());
        int again = draws.nextInt(25);
        for (int k = 0; k < again; k++) is("redo()", x.redo(), due.redo());
    }

    private void land(int call) {
        switch (call) {
            case 0: tree(); break;
            case 1: person(); break;
            case 2: case 3: text(); break;
            default: mend();
        }
        int number = any(12);
        int what = any(8);
        is("of(" + number + ", " + what + ")", x.of(number, what), due.of(number, what));
    }

    private void text() {
        String text = LAWS[draws.nextInt(LAWS.length)];
        if (draws.nextInt(4) == 0) {
            int at = draws.nextInt(text.length());
            text = text.substring(0, at) + LETTERS.charAt(draws.nextInt(LETTERS.length())) + text.substring(at);
        }
        if (draws.nextInt(40) == 0) text = (text + "?1;" + "+123456789".repeat(15)).substring(0, 118 + draws.nextInt(5));
        for (int i = 0; i < text.length(); i++) feed(text.charAt(i));
        if (draws.nextInt(12) > 0) is("law() of " + text, x.law(), due.law());
    }

    private void feed(int letter) {
        int fed = draws.nextInt(300) == 0 ? any(256) : letter;
        is("feed(" + fed + ")", x.feed(fed), due.feed(fed));
    }

    // ---- noons in thought

    private void thought(int call) {
        int tm = anyTm();
        int m = any(12);
        int what = any(2);
        switch (call) {
            case 0: is("shade(" + tm + ")", x.shade(tm), due.shade(tm)); break;
            case 1: votes(tm, any(4)); break;
            case 2: falls(any(13)); break;
            case 3: is("first(" + tm + ")", x.first(tm), due.first(tm)); break;
            case 4: left(m, any(draws.nextBoolean() ? 100 : 14)); break;
            case 5: case 6: is("turn(" + tm + ", " + what + ")", x.turn(tm, what), due.turn(tm, what)); break;
            case 7: is("chair(" + tm + ")", x.chair(tm), due.chair(tm)); break;
            case 8: power(tm, anyOne(), what); break;
            case 9: is("lop(" + tm + ", " + what + ")", x.lop(tm, what), due.lop(tm, what)); break;
            case 10: case 11: byTurns(tm, 10 * (1 + any(4)) + any(2)); break;
            case 12: is("deepest(" + tm / 100 + ", " + what + ")", x.deepest(tm / 100, what), due.deepest(tm / 100, what)); break;
            default: is("shadiest(" + m + ", " + what + ")", x.shadiest(m, what), due.shadiest(m, what));
        }
    }

    private void votes(int tm, int what) {
        is("votes(" + tm + ", " + what + ")", x.votes(tm, what), due.votes(tm, what));
    }

    private void falls(int month) {
        is("falls(" + month + ")", x.falls(month), due.falls(month));
    }

    private void left(int month, int n) {
        is("left(" + month + ", " + n + ")", x.left(month, n), due.left(month, n));
    }

    private void power(int tm, int one, int part) {
        is("power(" + tm + ", " + one + ", " + part + ")", x.power(tm, one, part), due.power(tm, one, part));
    }

    private void byTurns(int tm, int nw) {
        is("byTurns(" + tm + ", " + nw + ")", x.byTurns(tm, nw), due.byTurns(tm, nw));
    }

    // ---- books, seats

    private void seats(int call) {
        int tree = anyTree();
        switch (call) {
            case 0: book(); break;
            case 1: judge(any(6), tree); break;
            case 2: wishes(any(6), tree, any(3)); break;
            case 3: save(100 * tree + anyOne(), any(2)); break;
            case 4: alike(10 * tree + anyTree(), any(12)); break;
            default: drawn(draws.nextInt(), 100 * (1 + any(30)) + any(13), any(due.count(0) + 1) - 1);
        }
    }

    private void judge(int shelf, int tree) {
        is("judge(" + shelf + ", " + tree + ")", x.judge(shelf, tree), due.judge(shelf, tree));
    }

    private void wishes(int shelf, int tree, int what) {
        is("wishes(" + shelf + ", " + tree + ", " + what + ")", x.wishes(shelf, tree, what), due.wishes(shelf, tree, what));
    }

    private void save(int to, int what) {
        is("save(" + to + ", " + what + ")", x.save(to, what), due.save(to, what));
    }

    private void alike(int ab, int month) {
        is("alike(" + ab + ", " + month + ")", x.alike(ab, month), due.alike(ab, month));
    }

    private void drawn(int seed, int nc, int tree) {
        is("drawn(" + seed + ", " + nc + ", " + tree + ")", x.drawn(seed, nc, tree), due.drawn(seed, nc, tree));
    }

    /** A book that is mostly so, on one tree, as if it stood. */
    private void book() {
        int shelf = draws.nextInt(6);
        int tree = anyTree();
        int n = draws.nextInt(9);
        row(shelf, 0, n);
        for (int i = 0; i + 1 < n; i += 2) {
            int m = any(12);
            put(shelf, i, m);
            put(shelf, i + 1, draws.nextInt(4) == 0 ? any(2) : Math.max(0, due.votes(100 * tree + m, 2)));
        }
        judge(shelf, tree);
        for (int what = 0; what < 3; what++) wishes(shelf, tree, what);
    }

    // ---- in deed

    private void deeds(int call) {
        switch (call) {
            case 0: is("noon()", x.noon(), due.noon()); break;
            case 1: sits(anyOne(), seat()); break;
            case 2: lopped(anyTree()); break;
            case 3: led(any(5)); break;
            case 4: if (draws.nextInt(3) == 0) is("image()", x.image(), due.image()); break;
            case 5: is("back()", x.back(), due.back()); break;
            case 6: case 7: is("undo()", x.undo(), due.undo()); break;
            default: is("redo()", x.redo(), due.redo());
        }
    }

    private void sits(int one, int cell) {
        is("sits(" + one + ", " + cell + ")", x.sits(one, cell), due.sits(one, cell));
    }

    private void lopped(int tree) {
        is("lopped(" + tree + ")", x.lopped(tree), due.lopped(tree));
    }

    private void led(int what) {
        is("led(" + what + ")", x.led(what), due.led(what));
    }

    // ---- acts, shelves

    private void acts(int call) {
        int shelf = any(6);
        switch (call) {
            case 0: body(any(8)); break;
            case 1: act(any(Math.max(1, due.count(4))), any(4), draws.nextInt(4) == 0 ? draws.nextInt() : any(20)); break;
            case 2: keep(shelf, any(due.count(4) + 1) - 1); break;
            case 3: row(shelf, any(5), draws.nextInt(9) == 0 ? any(61) : draws.nextInt(9) - 1); break;
            case 4: put(shelf, any(8), draws.nextBoolean() ? any(256) : draws.nextLong()); break;
            case 5: element(shelf, any(8)); break;
            case 6: shift(shelf, any(8), any(6), any(8), any(8)); break;
            case 7: taken(shelf, any(8)); break;
            case 8: threes(); break;
            default: count(any(6));
        }
    }

    private void body(int kind) {
        is("body(" + kind + ")", x.body(kind), due.body(kind));
    }

    private void act(int body, int act, int v) {
        is("act(" + body + ", " + act + ", " + v + ")", x.act(body, act, v), due.act(body, act, v));
        for (int i = 0; i < 3; i++) {
            int k = i == 0 ? due.count(5) : any(24);
            is("trace(" + k + ")", x.trace(k), due.trace(k));
        }
    }

    private void keep(int shelf, int body) {
        is("keep(" + shelf + ", " + body + ")", x.keep(shelf, body), due.keep(shelf, body));
    }

    private void row(int shelf, int sort, int n) {
        is("row(" + shelf + ", " + sort + ", " + n + ")", x.row(shelf, sort, n), due.row(shelf, sort, n));
    }

    private void put(int shelf, int i, long v) {
        is("put(" + shelf + ", " + i + ", " + v + ")", x.put(shelf, i, v), due.put(shelf, i, v));
    }

    private void element(int shelf, int i) {
        is("element(" + shelf + ", " + i + ")", x.element(shelf, i), due.element(shelf, i));
    }

    private void shift(int shelf, int i, int other, int j, int n) {
        String call = "shift(" + shelf + ", " + i + ", " + other + ", " + j + ", " + n + ")";
        is(call, x.shift(shelf, i, other, j, n), due.shift(shelf, i, other, j, n));
    }

    private void taken(int shelf, int k) {
        is("taken(" + shelf + ", " + k + ")", x.taken(shelf, k), due.taken(shelf, k));
    }

    /** People from a row that mostly is as said. */
    private void threes() {
        int shelf = draws.nextInt(6);
        int n = draws.nextInt(10);
        row(shelf, 1, n);
        for (int i = 0; i < n; i++) put(shelf, i, i % 3 == 0 ? seat() : any(i % 3 == 1 ? 64 : 4));
        people(draws.nextInt(5) == 0 ? any(6) : shelf, draws.nextInt(3) == 0 ? any(10) : 0, 1 + any(4));
    }

    private void people(int shelf, int i, int n) {
        is("people(" + shelf + ", " + i + ", " + n + ")", x.people(shelf, i, n), due.people(shelf, i, n));
    }

    private void count(int what) {
        is("count(" + what + ")", x.count(what), due.count(what));
    }
}
