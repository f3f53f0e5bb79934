import java.util.ArrayList;
import java.util.List;

/** Promises 34 to 43: voters and their acts, shelves and rows, counts. */
public final class ActsTest {
    private static final Check C = new Check("ActsTest");
    private static final long VOID_LONG = Long.MIN_VALUE;

    public static void main(String[] args) {
        promise34Body();
        promise35Acts();
        promise35NoActs();
        promise36Traces();
        promise37Keep();
        promise38Row();
        promise39Put();
        promise40Element();
        promise41Shift();
        promise41Refusals();
        promise42Taken();
        promise43Count();
        C.end();
    }

    private static void promise34Body() {
        ShadeVotes x = new ShadeVotes();
        C.is("below", x.body(-1), -1);
        C.is("above", x.body(8), -1);
        for (int k = 0; k < 50; k++) C.is("number", x.body(k % 8), k);
        C.is("full", x.body(0), -3);
        C.is("full, BAD first", x.body(8), -1);
        C.is("fifty", x.count(4), 50);
        x.keep(0, 15);
        C.is("its kind", x.taken(0, 0), 7);
    }

    /** What an act of Java's own voters of the same ways answers, and which bodies ran in it. */
    private static int due(JavaVoters.Voter voter, int act, int x) {
        voter.ran = new ArrayList<>();
        switch (act) {
            case 0: return voter.sits(x);
            case 1: return voter.votes(x);
            case 2: return voter.moves(x);
            default: return voter.tells(x);
        }
    }

    private static List<Integer> traced(ShadeVotes x) {
        List<Integer> bodies = new ArrayList<>();
        for (int i = 0; x.trace(i) >= 0; i++) bodies.add(x.trace(i));
        return bodies;
    }

    private static void promise35Acts() {
        for (int number = 0; number < 8; number++) {
            for (int kind = 0; kind < 8; kind++) {
                ShadeVotes x = new ShadeVotes();
                for (int k = 0; k < number; k++) x.body(0);
                x.body(kind);
                for (int act = 0; act < 4; act++) {
                    for (int v : new int[] {0, 1, 7, -3, 1000000007, Integer.MAX_VALUE, Integer.MIN_VALUE}) {
                        String call = "act " + act + " of kind " + kind + ", number " + number + ", with " + v;
                        JavaVoters.Voter voter = JavaVoters.of(kind, number);
                        int want = due(voter, act, v);
                        C.is(call, x.act(number, act, v), want);
                        if (v == 0) C.so("trace of " + call, traced(x).equals(voter.ran));
                    }
                }
            }
        }
    }

    private static void promise35NoActs() {
        ShadeVotes x = new ShadeVotes();
        C.is("no such voter", x.act(0, 0, 5), 0);
        x.body(1);
        C.is("an aunt numbered 0", x.act(0, 0, 5), 8);
        C.is("two ran", x.count(5), 2);
        C.is("no such voter", x.act(1, 0, 5), 0);
        C.is("none ran", x.count(5), 0);
        C.is("no trace", x.trace(0), -1);
        x.act(0, 0, 5);
        C.is("voter below", x.act(-1, 0, 5), 0);
        C.is("none ran", x.count(5), 0);
        x.act(0, 0, 5);
        C.is("act below", x.act(0, -1, 5), 0);
        C.is("none ran", x.count(5), 0);
        x.act(0, 0, 5);
        C.is("act above", x.act(0, 4, 5), 0);
        C.is("none ran", x.count(5), 0);
        C.is("far above", x.act(Integer.MAX_VALUE, Integer.MAX_VALUE, 5), 0);
    }

    private static void promise36Traces() {
        ShadeVotes x = new ShadeVotes();
        x.body(7);
        x.act(0, 3, 1);
        int[] due = {81, 2, 80, 10, 20, 1, 50, 11, 20, 1, 50, 11, 20, 1};
        for (int i = 0; i < due.length; i++) C.is("trace", x.trace(i), due[i]);
        C.is("behind the last", x.trace(due.length), -1);
        C.is("below", x.trace(-1), -1);
        C.is("far above", x.trace(24), -1);
        C.is("all of them", x.count(5), due.length);
        x.act(0, 0, 1);
        C.is("the latest", x.trace(0), 20);
        C.is("the latest alone", x.trace(2), -1);
    }

    private static void promise37Keep() {
        ShadeVotes x = new ShadeVotes();
        C.is("nothing on nothing", x.keep(0, -1), 1);
        C.is("no such body", x.keep(0, 0), -1);
        x.body(3);
        C.is("body below", x.keep(0, -2), -1);
        C.is("body above", x.keep(0, 1), -1);
        C.is("shelf below", x.keep(-1, 0), -1);
        C.is("shelf above", x.keep(6, 0), -1);
        for (int shelf = 0; shelf < 6; shelf++) {
            C.is("kept", x.keep(shelf, 0), 1);
            C.is("taken", x.taken(shelf, 0), 3);
        }
        C.is("nothing", x.keep(2, -1), 1);
        C.is("nothing is there", x.taken(2, 0), -11);
        x.row(3, 2, 4);
        C.is("in place of a row", x.keep(3, 0), 1);
        C.is("no row", x.put(3, 0, 1), -12);
        x.row(3, 2, 4);
        C.is("nothing in place of a row", x.keep(3, -1), 1);
        C.is("nothing", x.put(3, 0, 1), -11);
    }

    private static void promise38Row() {
        ShadeVotes x = new ShadeVotes();
        C.is("shelf below", x.row(-1, 0, 1), -1);
        C.is("shelf above", x.row(6, 0, 1), -1);
        C.is("sort below", x.row(0, -1, 1), -1);
        C.is("sort above", x.row(0, 5, 1), -1);
        C.is("too long", x.row(0, 0, 61), -1);
        C.is("far too long", x.row(0, 0, Integer.MAX_VALUE), -1);
        C.is("below 0", x.row(0, 0, -1), -14);
        C.is("far below 0", x.row(0, 0, Integer.MIN_VALUE), -14);
        C.is("BAD ahead of that", x.row(0, 5, -1), -1);
        C.is("nothing is there", x.put(0, 0, 0), -11);
        for (int sort = 0; sort <= 4; sort++) {
            C.is("sixty", x.row(sort, sort, 60), 1);
            for (int i = 0; i < 60; i++) C.is("0 at first", x.element(sort, i), 0);
            C.is("no more", x.element(sort, 60), VOID_LONG);
        }
        x.put(1, 0, 5);
        x.put(1, 7, 5);
        C.is("below 0", x.row(1, 0, -1), -14);
        C.is("it is as it was", x.element(1, 7), 5);
        C.is("anew", x.row(1, 2, 8), 1);
        C.is("0 again", x.element(1, 0), 0);
        C.is("0 again", x.element(1, 7), 0);
        C.is("eight", x.put(1, 8, 1), -13);
        C.is("none", x.row(1, 2, 0), 1);
        C.is("none", x.put(1, 0, 1), -13);
    }

    private static void promise39Put() {
        ShadeVotes x = new ShadeVotes();
        C.is("shelf below", x.put(-1, 0, 0), -1);
        C.is("shelf above", x.put(6, 0, 0), -1);
        C.is("nothing", x.put(0, 99, 0), -11);
        x.body(0);
        x.keep(0, 0);
        C.is("a voter", x.put(0, 99, 0), -12);
        x.row(0, 2, 3);
        C.is("place below", x.put(0, -1, 0), -13);
        C.is("place above", x.put(0, 3, 0), -13);
        C.is("the last", x.put(0, 2, 9), 1);
        C.is("is that", x.element(0, 2), 9);
        C.is("the others are not", x.element(0, 1), 0);
    }

    private static void promise40Element() {
        ShadeVotes x = new ShadeVotes();
        for (int sort = 0; sort <= 4; sort++) x.row(sort, sort, 2);
        for (long v : new long[] {0, 1, -1, 127, 128, 255, 256, -129, 32767, 32768, 65536, -40000, 1L << 31,
                (1L << 31) - 1, 1L << 32, -5000000000L, Long.MAX_VALUE, Long.MIN_VALUE}) {
            for (int sort = 0; sort <= 4; sort++) x.put(sort, 1, v);
            C.is("byte of " + v, x.element(0, 1), (byte) v);
            C.is("short of " + v, x.element(1, 1), (short) v);
            C.is("int of " + v, x.element(2, 1), (int) v);
            C.is("long of " + v, x.element(3, 1), v);
            C.is("boolean of " + v, x.element(4, 1), v != 0 ? 1 : 0);
        }
        C.is("place below", x.element(0, -1), VOID_LONG);
        C.is("place above", x.element(0, 2), VOID_LONG);
        C.is("shelf below", x.element(-1, 0), VOID_LONG);
        C.is("shelf above", x.element(6, 0), VOID_LONG);
        C.is("nothing", x.element(5, 0), VOID_LONG);
        x.body(0);
        x.keep(5, 0);
        C.is("a voter", x.element(5, 0), VOID_LONG);
    }

    private static void fill(ShadeVotes x, int shelf, int sort, int n, int from) {
        x.row(shelf, sort, n);
        for (int i = 0; i < n; i++) x.put(shelf, i, from + i);
    }

    private static void elements(ShadeVotes x, int shelf, int... due) {
        for (int i = 0; i < due.length; i++) C.is("element " + i, x.element(shelf, i), due[i]);
        C.is("and no more", x.element(shelf, due.length), VOID_LONG);
    }

    private static void promise41Shift() {
        ShadeVotes x = new ShadeVotes();
        fill(x, 0, 2, 6, 1);
        fill(x, 1, 2, 4, 11);
        C.is("to another", x.shift(0, 1, 1, 2, 2), 2);
        elements(x, 1, 11, 12, 2, 3);
        elements(x, 0, 1, 2, 3, 4, 5, 6);
        C.is("up in itself", x.shift(0, 0, 0, 2, 4), 4);
        elements(x, 0, 1, 2, 1, 2, 3, 4);
        fill(x, 0, 2, 6, 1);
        C.is("down in itself", x.shift(0, 2, 0, 0, 4), 4);
        elements(x, 0, 3, 4, 5, 6, 5, 6);
        C.is("none", x.shift(0, 6, 1, 4, 0), 0);
        elements(x, 1, 11, 12, 2, 3);
        C.is("all", x.shift(1, 0, 0, 2, 4), 4);
        elements(x, 0, 3, 4, 11, 12, 2, 3);
        for (int sort = 0; sort <= 4; sort++) {
            fill(x, 2, sort, 3, 0);
            x.row(3, sort, 3);
            C.is("of sort " + sort, x.shift(2, 0, 3, 0, 3), 3);
            C.is("moved", x.element(3, 1), 1);
        }
    }

    private static void promise41Refusals() {
        ShadeVotes x = new ShadeVotes();
        C.is("shelf below", x.shift(-1, 0, 0, 0, 0), -1);
        C.is("shelf above", x.shift(6, 0, 0, 0, 0), -1);
        C.is("other below", x.shift(0, 0, -1, 0, 0), -1);
        C.is("other above", x.shift(0, 0, 6, 0, 0), -1);
        x.body(0);
        x.keep(0, 0);
        C.is("nothing on the other", x.shift(0, 0, 1, 0, 0), -11);
        C.is("nothing on the one", x.shift(1, 0, 0, 0, 0), -11);
        fill(x, 1, 0, 5, 1);
        C.is("a voter", x.shift(0, 9, 1, 0, 0), -12);
        C.is("a voter", x.shift(1, 9, 0, 0, 0), -12);
        C.is("voters", x.shift(0, 0, 0, 0, 0), -12);
        for (int sort = 1; sort <= 4; sort++) {
            x.row(2, sort, 5);
            C.is("unlike", x.shift(1, 9, 2, 0, 0), -12);
            C.is("unlike", x.shift(2, 9, 1, 0, 0), -12);
        }
        x.row(2, 0, 4);
        C.is("place below", x.shift(1, -1, 2, 0, 1), -13);
        C.is("other place below", x.shift(1, 0, 2, -1, 1), -13);
        C.is("n below", x.shift(1, 0, 2, 0, -1), -13);
        C.is("the one too short", x.shift(1, 3, 2, 0, 3), -13);
        C.is("the other too short", x.shift(1, 0, 2, 0, 5), -13);
        C.is("behind the end, none", x.shift(1, 6, 2, 0, 0), -13);
        C.is("behind the other's end, none", x.shift(1, 0, 2, 5, 0), -13);
        int most = Integer.MAX_VALUE;
        C.is("far above", x.shift(1, most, 2, most, most), -13);
        C.is("far above", x.shift(1, 1, 2, 1, most), -13);
        C.is("far below", x.shift(1, 0, 2, 0, Integer.MIN_VALUE), -13);
        elements(x, 1, 1, 2, 3, 4, 5);
        elements(x, 2, 0, 0, 0, 0);
    }

    private static void promise42Taken() {
        ShadeVotes x = new ShadeVotes();
        int[] above = {-1, 0, 0, 2, 1, 3, 0, 4};
        for (int kind = 0; kind < 8; kind++) {
            x.body(kind);
            x.keep(1, kind);
            for (int k = 0; k < 8; k++) {
                boolean under = false;
                for (int here = kind; here >= 0; here = above[here]) under |= here == k;
                C.is("kind " + kind + " for " + k, x.taken(1, k), under ? kind : -12);
            }
        }
        C.is("nothing", x.taken(0, 0), -11);
        x.row(0, 0, 1);
        C.is("a row", x.taken(0, 0), -12);
        C.is("kind below", x.taken(0, -1), -1);
        C.is("kind above", x.taken(0, 8), -1);
        C.is("shelf below", x.taken(-1, 0), -1);
        C.is("shelf above", x.taken(6, 0), -1);
    }

    private static void promise43Count() {
        ShadeVotes x = new ShadeVotes();
        x.tree(0, 1);
        for (int k = 0; k < 2; k++) x.person(0, 0);
        for (int k = 0; k < 3; k++) x.feed('1');
        for (int k = 0; k < 4; k++) x.mend(k, 3, 1);
        for (int k = 0; k < 5; k++) x.body(5);
        x.act(4, 3, 0);
        int[] due = {1, 2, 3, 4, 5, 8};
        for (int what = 0; what < 6; what++) C.is("count", x.count(what), due[what]);
        C.is("below", x.count(-1), -1);
        C.is("above", x.count(6), -1);
    }
}
