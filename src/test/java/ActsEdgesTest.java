/**
 * The boundary cases that the document names for voters, shelves and counts (promises 34 to 43): one function for
 * each sentence, which stands above it.
 */
public final class ActsEdgesTest {
    private static final Check C = new Check("ActsEdgesTest");
    private static final int LEAST = Integer.MIN_VALUE, MOST = Integer.MAX_VALUE;
    private static final long REFUSED = Long.MIN_VALUE;

    public static void main(String[] args) {
        bodies0To49();
        kinds0To7();
        actsWrap();
        noSuchVoterOrAct();
        traceIsOfTheLatest();
        tracePlaces();
        traceKeepsAllThatRan();
        shelves0To5();
        nothingAtFirst();
        keepNothingOrAVoter();
        rowsOf0To60();
        rowSorts();
        rowBelow0();
        rowIs0AtFirst();
        lowestBits();
        booleansAre0Or1();
        putRefused();
        elementRefused();
        shiftAsTheyWere();
        shiftOfNone();
        shiftPlaces();
        shiftRefused();
        takenForAKind();
        takenRefused();
        countsAtTheirMost();
        countRefused();
        C.end();
    }

    /** "BODIES 0 .. 49": "its number. BAD, FULL." */
    private static void bodies0To49() {
        ShadeVotes x = new ShadeVotes();
        for (int k = 0; k < 50; k++) {
            C.is("its number", x.body(k % 8), k);
            C.is("so many", x.count(4), k + 1);
        }
        String was = Seen.of(x);
        for (int kind = 0; kind < 8; kind++) C.is("full", x.body(kind), -3);
        C.is("BAD is named first", x.body(8), -1);
        C.is("BAD is named first", x.body(-1), -1);
        C.so("as it was", was.equals(Seen.of(x)));
        C.is("the last sits by its number, under an aunt", x.act(49, 0, 1), 53);
        C.is("none behind it", x.act(50, 0, 1), 0);
        C.is("the last is kept", x.keep(0, 49), 1);
        C.is("none behind it", x.keep(0, 50), -1);
        C.is("its kind", x.taken(0, 1), 1);
    }

    /** "A VOTER of a KIND (0 .. 7) is kept". */
    private static void kinds0To7() {
        ShadeVotes x = new ShadeVotes();
        for (int kind : new int[] {-1, 8, LEAST, MOST}) C.is("kind " + kind, x.body(kind), -1);
        C.is("none came", x.count(4), 0);
        C.is("the first", x.body(0), 0);
        C.is("the last", x.body(7), 1);
        int[] sits = {10, 13, 10, 10, 13, 10, 20, 13};
        for (int kind = 0; kind < 8; kind++) {
            ShadeVotes y = new ShadeVotes();
            y.body(kind);
            C.is("sits", y.act(0, 0, 10), sits[kind]);
        }
    }

    /** "ACTS with x (an int that wraps)". */
    private static void actsWrap() {
        ShadeVotes x = new ShadeVotes();
        for (int kind = 0; kind < 8; kind++) x.body(kind);
        C.is("the most and 0", x.act(0, 0, MOST), MOST);
        C.is("the most, and 3", x.act(1, 0, MOST), LEAST + 3);
        C.is("the least and 2", x.act(2, 0, LEAST), LEAST + 2);
        C.is("twice the most", x.act(0, 1, MOST), -2);
        C.is("twice the least", x.act(0, 1, LEAST), 0);
        C.is("- of twice 2 to the 30th less 2", x.act(2, 1, (1 << 30) - 2), LEAST);
        C.is("x + 1 behind the most", x.act(3, 1, MOST), -2 * (LEAST + 3));
        C.is("thrice", x.act(3, 2, MOST), 3 * (MOST ^ 3));
        C.is("twice the most and 6", x.act(6, 0, MOST), 10);
        C.is("twice votes less moves", x.act(0, 3, MOST), -3);
    }

    /** "0, and no TRACE then: no such VOTER, ACT." */
    private static void noSuchVoterOrAct() {
        ShadeVotes x = new ShadeVotes();
        C.is("none yet", x.act(0, 0, 9), 0);
        x.body(1);
        int[][] wrong = {{1, 0}, {-1, 0}, {50, 0}, {LEAST, 0}, {MOST, 0}, {0, -1}, {0, 4}, {0, LEAST}, {0, MOST}, {1, 4}};
        for (int[] w : wrong) {
            C.is("an aunt", x.act(0, 0, 9), 12);
            C.is("two ran", x.count(5), 2);
            C.is("the first that ran", x.trace(0), 20);
            C.is("no such one", x.act(w[0], w[1], 9), 0);
            C.is("none ran", x.count(5), 0);
            C.is("no trace", x.trace(0), -1);
        }
        C.is("the first act", x.act(0, 0, 9), 12);
        C.is("the last act", x.act(0, 3, 9), 24 - 1);
    }

    /** "THE TRACE: numbers of the bodies that ran in the latest act(), as they began". */
    private static void traceIsOfTheLatest() {
        ShadeVotes x = new ShadeVotes();
        x.body(7);
        x.body(0);
        x.act(0, 3, 1);
        int[] longest = {81, 2, 80, 10, 20, 1, 50, 11, 20, 1, 50, 11, 20, 1};
        trace(x, longest);
        x.act(1, 0, 1);
        trace(x, 1);
        x.act(1, 2, 1);
        trace(x, 11);
        x.act(1, 3, 1);
        trace(x, 2, 10, 1, 11);
        x.body(0);
        x.tree(0, 1);
        trace(x, 2, 10, 1, 11);
    }

    private static void trace(ShadeVotes x, int... due) {
        C.is("so many ran", x.count(5), due.length);
        for (int i = 0; i < due.length; i++) C.is("the " + i + "th", x.trace(i), due[i]);
        for (int i = due.length; i < 30; i++) C.is("no " + i + "th", x.trace(i), -1);
    }

    /** trace(): "BAD." */
    private static void tracePlaces() {
        ShadeVotes x = new ShadeVotes();
        for (int i : new int[] {-1, 0, 1, 23, 24, LEAST, MOST}) C.is("no act yet", x.trace(i), -1);
        x.body(0);
        x.act(0, 1, 1);
        for (int i : new int[] {-1, 2, 23, 24, LEAST, MOST}) C.is("place " + i, x.trace(i), -1);
        C.is("the first", x.trace(0), 10);
        C.is("the last", x.trace(1), 1);
    }

    /** "the first 24 are kept": the longest act runs 14 bodies, so none is ever lost. */
    private static void traceKeepsAllThatRan() {
        int[][] ran = {
            {1, 2, 1, 4}, {2, 3, 1, 5}, {1, 3, 1, 5}, {1, 4, 2, 7}, {2, 3, 4, 8}, {1, 4, 2, 8}, {2, 3, 1, 5}, {2, 8, 4, 14}
        };
        ShadeVotes x = new ShadeVotes();
        for (int kind = 0; kind < 8; kind++) x.body(kind);
        for (int kind = 0; kind < 8; kind++) {
            for (int act = 0; act < 4; act++) {
                x.act(kind, act, MOST);
                C.is("so many ran", x.count(5), ran[kind][act]);
                C.so("the last of them is kept", x.trace(ran[kind][act] - 1) > 0);
                C.is("none behind it", x.trace(ran[kind][act]), -1);
            }
        }
    }

    /** "SHELVES 0 .. 5". */
    private static void shelves0To5() {
        ShadeVotes x = new ShadeVotes();
        x.body(0);
        for (int shelf : new int[] {-1, 6, LEAST, MOST}) {
            C.is("keep", x.keep(shelf, 0), -1);
            C.is("keep nothing", x.keep(shelf, -1), -1);
            C.is("row", x.row(shelf, 0, 1), -1);
            C.is("row below 0", x.row(shelf, 0, -1), -1);
            C.is("put", x.put(shelf, 0, 1), -1);
            C.is("element", x.element(shelf, 0), REFUSED);
            C.is("shift from", x.shift(shelf, 0, 0, 0, 0), -1);
            C.is("shift to", x.shift(0, 0, shelf, 0, 0), -1);
            C.is("taken", x.taken(shelf, 0), -1);
        }
        for (int shelf = 0; shelf < 6; shelf++) {
            x.row(shelf, 2, 1);
            x.put(shelf, 0, 10 + shelf);
        }
        for (int shelf = 0; shelf < 6; shelf++) C.is("each holds its own", x.element(shelf, 0), 10 + shelf);
    }

    /** "SHELVES .. each hold nothing (at first)": "-11 nothing is there where something is wanted". */
    private static void nothingAtFirst() {
        ShadeVotes x = new ShadeVotes();
        for (int shelf = 0; shelf < 6; shelf++) {
            C.is("put", x.put(shelf, 0, 1), -11);
            C.is("put at no place", x.put(shelf, -1, 1), -11);
            C.is("element", x.element(shelf, 0), REFUSED);
            C.is("taken", x.taken(shelf, 0), -11);
            C.is("shift", x.shift(shelf, 0, shelf, 0, 0), -11);
            C.is("a missing row", x.people(shelf, 0, 1), 0);
        }
    }

    /** "A SHELF holds nothing (body -1), or a VOTER: 1. BAD." */
    private static void keepNothingOrAVoter() {
        ShadeVotes x = new ShadeVotes();
        C.is("nothing", x.keep(5, -1), 1);
        C.is("no voter yet", x.keep(5, 0), -1);
        x.body(6);
        C.is("the voter", x.keep(5, 0), 1);
        String was = Seen.of(x);
        for (int body : new int[] {-2, 1, 50, LEAST, MOST}) C.is("body " + body, x.keep(5, body), -1);
        C.so("as it was", was.equals(Seen.of(x)));
        C.is("the voter still", x.taken(5, 6), 6);
        C.is("nothing", x.keep(5, -1), 1);
        C.is("nothing is there", x.taken(5, 6), -11);
        x.row(5, 0, 60);
        C.is("a voter in place of a row", x.keep(5, 0), 1);
        C.is("no row", x.element(5, 0), REFUSED);
        C.is("no row", x.put(5, 0, 0), -12);
        x.row(5, 0, 60);
        C.is("a row in place of a voter", x.taken(5, 6), -12);
        C.is("nothing in place of a row", x.keep(5, -1), 1);
        C.is("nothing", x.put(5, 0, 0), -11);
    }

    /** "of 0 .. 60 elements". */
    private static void rowsOf0To60() {
        for (int sort = 0; sort <= 4; sort++) {
            ShadeVotes x = new ShadeVotes();
            C.is("none", x.row(0, sort, 0), 1);
            C.is("no place", x.put(0, 0, 1), -13);
            C.is("one", x.row(0, sort, 1), 1);
            C.is("a place", x.put(0, 0, 1), 1);
            C.is("no other", x.put(0, 1, 1), -13);
            C.is("sixty", x.row(0, sort, 60), 1);
            C.is("the last place", x.put(0, 59, 1), 1);
            C.is("it is there", x.element(0, 59), 1);
            C.is("none behind it", x.put(0, 60, 1), -13);
            for (int n : new int[] {61, 62, 1000, MOST}) C.is("n " + n, x.row(0, sort, n), -1);
            C.is("the row is as it was", x.element(0, 59), 1);
        }
    }

    /** row(): "BAD (sort, ..)". */
    private static void rowSorts() {
        ShadeVotes x = new ShadeVotes();
        for (int sort : new int[] {-1, 5, LEAST, MOST}) {
            C.is("sort " + sort, x.row(0, sort, 1), -1);
            C.is("BAD is named ahead of -14", x.row(0, sort, -1), -1);
            C.is("nothing is held", x.put(0, 0, 0), -11);
        }
        long[] seven = {7, 7, 7, 7, 1};
        for (int sort = 0; sort <= 4; sort++) {
            C.is("sort " + sort, x.row(0, sort, 1), 1);
            x.put(0, 0, 7);
            C.is("it holds", x.element(0, 0), seven[sort]);
        }
    }

    /** "-14 a size below 0". */
    private static void rowBelow0() {
        ShadeVotes x = new ShadeVotes();
        for (int n : new int[] {-1, -2, -60, LEAST}) {
            C.is("n " + n, x.row(0, 2, n), -14);
            C.is("nothing is held", x.put(0, 0, 0), -11);
        }
        x.row(0, 2, 3);
        x.put(0, 2, 8);
        C.is("below", x.row(0, 4, -1), -14);
        C.is("the row is as it was", x.element(0, 2), 8);
        x.body(0);
        x.keep(0, 0);
        C.is("below", x.row(0, 4, -1), -14);
        C.is("the voter is as he was", x.taken(0, 0), 0);
    }

    /** "0 at first (false)": a new row, too, where one was. */
    private static void rowIs0AtFirst() {
        ShadeVotes x = new ShadeVotes();
        for (int sort = 0; sort <= 4; sort++) {
            x.row(1, sort, 60);
            for (int i = 0; i < 60; i++) C.is("0 at first", x.element(1, i), 0);
            for (int i = 0; i < 60; i++) x.put(1, i, 1);
        }
        x.row(1, 2, 3);
        x.row(1, 2, 60);
        for (int i = 0; i < 60; i++) C.is("0 again", x.element(1, i), 0);
    }

    /** "what is put in keeps its lowest bits". */
    private static void lowestBits() {
        ShadeVotes x = new ShadeVotes();
        for (int sort = 0; sort <= 3; sort++) x.row(sort, sort, 1);
        int[] bits = {8, 16, 32, 64};
        for (int sort = 0; sort <= 3; sort++) {
            long most = (1L << bits[sort] - 1) - 1;
            held(x, sort, most, most);
            held(x, sort, -most - 1, -most - 1);
            held(x, sort, -1, -1);
            if (sort == 3) continue;
            held(x, sort, most + 1, -most - 1);
            held(x, sort, -most - 2, most);
            held(x, sort, 2 * most + 2, 0);
            held(x, sort, 2 * most + 1, -1);
            held(x, sort, Long.MAX_VALUE, -1);
            held(x, sort, Long.MIN_VALUE, 0);
            held(x, sort, Long.MIN_VALUE + 5, 5);
        }
    }

    private static void held(ShadeVotes x, int shelf, long v, long due) {
        C.is("put", x.put(shelf, 0, v), 1);
        C.is("held of " + v, x.element(shelf, 0), due);
    }

    /** "(a boolean: whether it is not 0; 1 or 0)". */
    private static void booleansAre0Or1() {
        ShadeVotes x = new ShadeVotes();
        x.row(0, 4, 1);
        held(x, 0, 0, 0);
        for (long v : new long[] {1, 2, -1, 256, 65536, 1L << 32, 1L << 63, Long.MAX_VALUE}) held(x, 0, v, 1);
        held(x, 0, 0, 0);
    }

    /** put(): "BAD, -11, -12, -13." */
    private static void putRefused() {
        ShadeVotes x = new ShadeVotes();
        C.is("BAD", x.put(6, -1, 0), -1);
        C.is("-11 ahead of -13", x.put(0, -1, 0), -11);
        x.body(0);
        x.keep(0, 0);
        C.is("-12 ahead of -13", x.put(0, -1, 0), -12);
        x.row(0, 3, 5);
        x.put(0, 4, 6);
        String was = Seen.of(x);
        for (int i : new int[] {-1, 5, 59, 60, LEAST, MOST}) C.is("place " + i, x.put(0, i, 1), -13);
        C.so("as it was", was.equals(Seen.of(x)));
        C.is("the first place", x.put(0, 0, 1), 1);
        C.is("the last place", x.put(0, 4, 1), 1);
    }

    /** "Long.MIN_VALUE: BAD, -11 to -13." */
    private static void elementRefused() {
        ShadeVotes x = new ShadeVotes();
        C.is("BAD", x.element(-1, 0), REFUSED);
        C.is("BAD", x.element(6, 0), REFUSED);
        C.is("-11", x.element(0, 0), REFUSED);
        x.body(0);
        x.keep(0, 0);
        C.is("-12", x.element(0, 0), REFUSED);
        for (int sort = 0; sort <= 4; sort++) {
            x.row(0, sort, 0);
            C.is("-13 of none", x.element(0, 0), REFUSED);
            x.row(0, sort, 5);
            for (int i : new int[] {-1, 5, 60, LEAST, MOST}) C.is("place " + i, x.element(0, i), REFUSED);
            C.is("the first", x.element(0, 0), 0);
            C.is("the last", x.element(0, 4), 0);
        }
        x.row(0, 3, 1);
        x.put(0, 0, -11);
        C.is("a long may be -11", x.element(0, 0), -11);
    }

    private static void fill(ShadeVotes x, int shelf, int sort, int n) {
        x.row(shelf, sort, n);
        for (int i = 0; i < n; i++) x.put(shelf, i, i + 1);
    }

    /** "or the same ..., as they all were before". */
    private static void shiftAsTheyWere() {
        for (int from = 0; from <= 4; from++) {
            for (int to = 0; to <= 4; to++) {
                ShadeVotes x = new ShadeVotes();
                fill(x, 0, 2, 7);
                C.is("in the same", x.shift(0, from, 0, to, 3), 3);
                for (int i = 0; i < 7; i++) {
                    boolean came = i >= to && i < to + 3;
                    C.is("from " + from + " to " + to, x.element(0, i), came ? from + i - to + 1 : i + 1);
                }
            }
        }
        ShadeVotes y = new ShadeVotes();
        for (int sort = 0; sort <= 4; sort++) {
            y.row(0, sort, 60);
            y.row(1, sort, 60);
            for (int i = 0; i < 60; i++) y.put(0, i, 1 + i % 2 * -2);
            C.is("all sixty", y.shift(0, 0, 1, 0, 60), 60);
            for (int i = 0; i < 60; i++) C.is("as it was", y.element(1, i), y.element(0, i));
            C.is("on itself", y.shift(0, 0, 0, 0, 60), 60);
        }
    }

    /** shift() of no elements: 0, if the places are there; the place behind the last is. */
    private static void shiftOfNone() {
        ShadeVotes x = new ShadeVotes();
        fill(x, 0, 0, 3);
        x.row(1, 0, 0);
        String was = Seen.of(x);
        for (int i = 0; i <= 3; i++) C.is("none from " + i, x.shift(0, i, 1, 0, 0), 0);
        C.is("none of none", x.shift(1, 0, 1, 0, 0), 0);
        C.is("none behind the end", x.shift(0, 4, 1, 0, 0), -13);
        C.is("none to behind the end", x.shift(0, 0, 1, 1, 0), -13);
        C.is("one of none", x.shift(1, 0, 0, 0, 1), -13);
        C.is("one to none", x.shift(0, 0, 1, 0, 1), -13);
        C.so("as it was", was.equals(Seen.of(x)));
    }

    /** shift(): "-13". */
    private static void shiftPlaces() {
        ShadeVotes x = new ShadeVotes();
        fill(x, 0, 2, 5);
        x.row(1, 2, 4);
        String was = Seen.of(x);
        int[][] wrong = {
            {-1, 0, 1}, {0, -1, 1}, {0, 0, -1}, {0, 0, 5}, {1, 0, 5}, {5, 0, 1}, {0, 4, 1}, {4, 0, 2}, {0, 3, 2},
            {LEAST, 0, 1}, {0, LEAST, 1}, {0, 0, LEAST}, {MOST, 0, 1}, {0, MOST, 1}, {0, 0, MOST}, {MOST, MOST, MOST},
            {1, 1, MOST}, {-1, -1, 2}, {5, 4, -1}, {LEAST, LEAST, LEAST}, {6, 5, -2}
        };
        for (int[] w : wrong) C.is("from " + w[0] + " to " + w[1] + ", " + w[2], x.shift(0, w[0], 1, w[1], w[2]), -13);
        C.so("as it was", was.equals(Seen.of(x)));
        C.is("the last to the last", x.shift(0, 4, 1, 3, 1), 1);
        C.is("it is", x.element(1, 3), 5);
        C.is("all that have room", x.shift(0, 1, 1, 0, 4), 4);
    }

    /** shift(): "BAD, -11 (either), -12 (no ROWS, or of unlike sorts), -13." */
    private static void shiftRefused() {
        ShadeVotes x = new ShadeVotes();
        x.body(0);
        C.is("BAD ahead of -11", x.shift(0, 0, 6, 0, 0), -1);
        C.is("BAD ahead of -11", x.shift(-1, 0, 0, 0, 0), -1);
        C.is("both nothing", x.shift(0, 0, 1, 0, 0), -11);
        x.keep(0, 0);
        C.is("a voter to nothing", x.shift(0, 0, 1, 0, 0), -11);
        C.is("nothing to a voter", x.shift(1, 0, 0, 0, 0), -11);
        x.row(2, 0, 2);
        C.is("a row to nothing", x.shift(2, -1, 1, 0, 0), -11);
        C.is("nothing to a row", x.shift(1, -1, 2, 0, 0), -11);
        C.is("a row to a voter", x.shift(2, -1, 0, 0, 0), -12);
        C.is("a voter to a row", x.shift(0, -1, 2, 0, 0), -12);
        C.is("a voter to himself", x.shift(0, 0, 0, 0, 0), -12);
        for (int one = 0; one <= 4; one++) {
            for (int other = 0; other <= 4; other++) {
                x.row(3, one, 2);
                x.row(4, other, 2);
                C.is("sorts " + one + ", " + other, x.shift(3, 0, 4, 0, 2), one == other ? 2 : -12);
                C.is("-12 ahead of -13", x.shift(3, -1, 4, 0, 2), one == other ? -13 : -12);
            }
        }
    }

    /** "What a SHELF holds, taken for a VOTER of KIND k (0 .. 7), or under it: its KIND." */
    private static void takenForAKind() {
        int[][] over = {{0}, {0, 1}, {0, 2}, {0, 2, 3}, {0, 1, 4}, {0, 2, 3, 5}, {0, 6}, {0, 1, 4, 7}};
        for (int kind = 0; kind < 8; kind++) {
            ShadeVotes x = new ShadeVotes();
            x.body(kind);
            x.keep(0, 0);
            for (int k = 0; k < 8; k++) {
                int due = -12;
                for (int o : over[kind]) if (o == k) due = kind;
                C.is("kind " + kind + " for " + k, x.taken(0, k), due);
            }
        }
    }

    /** taken(): "BAD, -11, -12." */
    private static void takenRefused() {
        ShadeVotes x = new ShadeVotes();
        for (int k : new int[] {-1, 8, LEAST, MOST}) C.is("BAD ahead of -11", x.taken(0, k), -1);
        C.is("nothing", x.taken(0, 7), -11);
        for (int sort = 0; sort <= 4; sort++) {
            x.row(0, sort, 0);
            C.is("a row", x.taken(0, 0), -12);
            C.is("BAD ahead of -12", x.taken(0, 8), -1);
        }
        x.body(0);
        x.keep(0, 0);
        C.is("BAD", x.taken(0, 8), -1);
        C.is("the voter", x.taken(0, 0), 0);
        C.is("is no acorn", x.taken(0, 7), -12);
    }

    /** "How many: 0 TREES, 1 PEOPLE, 2 bytes on THE TAPE, 3 changes that may be UNDONE, 4 BODIES, 5 bodies that ran". */
    private static void countsAtTheirMost() {
        ShadeVotes x = new ShadeVotes();
        for (int what = 0; what <= 5; what++) C.is("at first", x.count(what), 0);
        for (int k = 0; k < 7; k++) x.tree(0, 1);
        for (int k = 0; k < 11; k++) x.person(0, 0);
        for (int k = 0; k < 121; k++) x.feed('w');
        for (int k = 0; k < 41; k++) x.mend(0, 3, k % 9);
        for (int k = 0; k < 51; k++) x.body(7);
        x.act(0, 3, 0);
        int[] most = {6, 10, 120, 40, 50, 14};
        for (int what = 0; what <= 5; what++) C.is("at most", x.count(what), most[what]);
        x.undo();
        x.law();
        x.act(0, 4, 0);
        int[] then = {6, 10, 0, 39, 50, 0};
        for (int what = 0; what <= 5; what++) C.is("then", x.count(what), then[what]);
    }

    /** count(): "BAD." */
    private static void countRefused() {
        ShadeVotes x = new ShadeVotes();
        for (int what : new int[] {-1, 6, 7, LEAST, MOST}) C.is("what " + what, x.count(what), -1);
    }
}
