/** Promises 1 to 8: a new object, trees, people, the numbers of mend() and of(), the tape and the law. */
public final class LandTest {
    private static final Check C = new Check("LandTest");

    public static void main(String[] args) {
        constants();
        promise1NewObject();
        promise2Tree();
        promise3Person();
        promise4People();
        promise4PeopleEnds();
        promise5Mend();
        promise6Of();
        promise7Feed();
        promise8LawFaults();
        promise8LawOpens();
        promise8LawValues();
        promise8LawNames();
        promise8LawKept();
        C.end();
    }

    private static void constants() {
        C.is("BAD", ShadeVotes.BAD, -1);
        C.is("NOT", ShadeVotes.NOT, -2);
        C.is("FULL", ShadeVotes.FULL, -3);
        C.is("STATE", ShadeVotes.STATE, -5);
        C.is("VOID", ShadeVotes.VOID, -2000000000);
    }

    private static void promise1NewObject() {
        ShadeVotes x = new ShadeVotes();
        for (int what = 0; what <= 5; what++) C.is("count of a new one", x.count(what), 0);
        for (int what = 0; what <= 4; what++) C.is("led of a new one", x.led(what), 0);
        int[] low = {9, 8, 6, 4, 3, 2, 2, 3, 4, 6, 8, 9};
        for (int m = 0; m < 12; m++) C.is("LOW at first", x.of(m, 3), low[m]);
        for (int shelf = 0; shelf < 6; shelf++) C.is("empty shelf", x.put(shelf, 0, 1), -11);
        C.is("no tree", x.of(0, 0), -1);
        C.is("nobody", x.of(0, 4), -1);
        C.is("no trace", x.trace(0), -1);
        C.is("nothing to undo", x.undo(), -5);
        C.is("nothing to redo", x.redo(), -5);
        C.is("no image", x.back(), -5);
    }

    private static void promise2Tree() {
        ShadeVotes x = new ShadeVotes();
        C.is("cell below", x.tree(-1, 1), -1);
        C.is("cell above", x.tree(256, 1), -1);
        C.is("high below", x.tree(0, 0), -1);
        C.is("high above", x.tree(0, 10), -1);
        C.is("none came", x.count(0), 0);
        C.is("first", x.tree(0, 1), 0);
        C.is("cell", x.of(0, 0), 0);
        C.is("high", x.of(0, 1), 1);
        C.is("broad at first", x.of(0, 2), 1);
        C.is("stands at first", x.of(0, 7), 1);
        C.is("the same cell again", x.tree(0, 9), 1);
        for (int k = 2; k < 6; k++) C.is("number", x.tree(255, 9), k);
        C.is("seventh", x.tree(3, 3), -3);
        C.is("seventh, BAD ahead of FULL", x.tree(256, 3), -1);
        C.is("six", x.count(0), 6);
        C.is("cell of the last", x.of(5, 0), 255);
    }

    private static void promise3Person() {
        ShadeVotes x = new ShadeVotes();
        C.is("cell below", x.person(-1, 0), -1);
        C.is("cell above", x.person(256, 0), -1);
        C.is("wish below", x.person(0, -1), -1);
        C.is("wish above", x.person(0, 64), -1);
        C.is("first", x.person(255, 63), 0);
        C.is("cell", x.of(0, 4), 255);
        C.is("wish", x.of(0, 5), 63);
        C.is("weight at first", x.of(0, 6), 1);
        for (int k = 1; k < 10; k++) C.is("number", x.person(0, 0), k);
        C.is("eleventh", x.person(0, 0), -3);
        C.is("eleventh, BAD ahead of FULL", x.person(0, 64), -1);
        C.is("ten", x.count(1), 10);
    }

    private static void fill(ShadeVotes x, int shelf, int sort, int... values) {
        C.is("row", x.row(shelf, sort, values.length), 1);
        for (int i = 0; i < values.length; i++) C.is("put", x.put(shelf, i, values[i]), 1);
    }

    private static void promise4People() {
        ShadeVotes x = new ShadeVotes();
        fill(x, 2, 1, 99, 10, 1, 2, 20, 63, 0, 255, 0, 3);
        C.is("no shelf below", x.people(-1, 0, 1), -1);
        C.is("no shelf above", x.people(6, 0, 1), -1);
        C.is("n below", x.people(2, 0, 0), -1);
        C.is("n above", x.people(2, 0, 11), -1);
        C.is("a missing row", x.people(0, 0, 3), 0);
        C.is("two from place 1", x.people(2, 1, 2), 2);
        C.is("cell", x.of(0, 4), 10);
        C.is("wish", x.of(0, 5), 1);
        C.is("weight", x.of(0, 6), 2);
        C.is("cell", x.of(1, 4), 20);
        C.is("wish", x.of(1, 5), 63);
        C.is("weight", x.of(1, 6), 0);
        C.is("only two came", x.count(1), 2);
        C.is("the third", x.people(2, 7, 10), 1);
        C.is("its weight", x.of(2, 6), 3);
        for (int sort = 0; sort <= 4; sort++) {
            x.row(3, sort, 6);
            C.is("rows of sort " + sort, x.people(3, 6, 1), sort == 1 ? 0 : -12);
        }
        x.body(0);
        x.keep(4, 0);
        C.is("a voter", x.people(4, 0, 1), -12);
        C.is("a voter, BAD first", x.people(4, 0, 0), -1);
        C.is("three in all", x.count(1), 3);
    }

    private static void promise4PeopleEnds() {
        ShadeVotes x = new ShadeVotes();
        fill(x, 0, 1, 5, 5, 1, 6, 6, 2, 7, 7);
        C.is("ends within a three", x.people(0, 0, 3), 2);
        C.is("at the end", x.people(0, 8, 1), 0);
        C.is("behind the end", x.people(0, 60, 1), 0);
        C.is("far behind the end", x.people(0, Integer.MAX_VALUE, 10), 0);
        C.is("two last ones", x.people(0, 6, 1), 0);
        promise4PlacesBelow(x);
        fill(x, 1, 1, 5, 5, 1, 256, 5, 1, 5, 5, 1);
        C.is("no such cell", x.people(1, 0, 3), 1);
        fill(x, 1, 1, -1, 5, 1);
        C.is("cell below", x.people(1, 0, 1), 0);
        fill(x, 1, 1, 5, 64, 1);
        C.is("no such wish", x.people(1, 0, 1), 0);
        fill(x, 1, 1, 5, -1, 1);
        C.is("wish below", x.people(1, 0, 1), 0);
        fill(x, 1, 1, 5, 5, 4);
        C.is("no such weight", x.people(1, 0, 1), 0);
        fill(x, 1, 1, 5, 5, -1);
        C.is("weight below", x.people(1, 0, 1), 0);
        x.row(2, 1, 30);
        C.is("seven more have room", x.people(2, 0, 10), 7);
        C.is("none has room", x.people(2, 0, 1), 0);
        C.is("ten", x.count(1), 10);
    }

    /** No place is BAD: one below 0 is not there, and nobody was ahead of it. */
    private static void promise4PlacesBelow(ShadeVotes x) {
        int came = x.count(1);
        for (int place : new int[] {-1, -2, -3, -30, Integer.MIN_VALUE + 1, Integer.MIN_VALUE}) {
            C.is("of a row from " + place, x.people(0, place, 10), 0);
            C.is("of a missing row from " + place, x.people(5, place, 1), 0);
            C.is("BAD ahead of the place " + place, x.people(0, place, 0), -1);
            C.is("no shelf, from " + place, x.people(6, place, 1), -1);
            for (int sort = 0; sort <= 4; sort++) {
                x.row(3, sort, 6);
                C.is("of sort " + sort + " from " + place, x.people(3, place, 1), sort == 1 ? 0 : -12);
            }
            x.body(0);
            x.keep(3, 0);
            C.is("of a voter from " + place, x.people(3, place, 1), -12);
        }
        C.is("nobody came", x.count(1), came);
    }

    private static void promise5Mend() {
        int[] least = {0, 1, 0, 0, 0, 0, 0};
        int[] most = {255, 9, 3, 9, 255, 63, 3};
        int[] first = {17, 4, 1, 6, 33, 5, 1};
        for (int what = 0; what <= 6; what++) {
            ShadeVotes x = new ShadeVotes();
            C.is("none such yet", x.mend(12, what, least[what]), -1);
            x.tree(100, 2);
            x.tree(101, 2);
            x.tree(17, 4);
            x.person(9, 0);
            x.person(9, 0);
            x.person(33, 5);
            int last = what == 3 ? 11 : 2;
            C.is("below", x.mend(2, what, least[what] - 1), -1);
            C.is("above", x.mend(2, what, most[what] + 1), -1);
            C.is("number below", x.mend(-1, what, least[what]), -1);
            C.is("number above", x.mend(last + 1, what, least[what]), -1);
            C.is("to the most", x.mend(2, what, most[what]), first[what]);
            C.is("to the least", x.mend(2, what, least[what]), most[what]);
            C.is("it is that", x.of(2, what), least[what]);
            C.is("the same", x.mend(2, what, least[what]), least[what]);
            C.is("what 7", x.mend(2, 7, 1), -1);
            C.is("what -1", x.mend(2, -1, 1), -1);
            C.is("what far above", x.mend(2, Integer.MAX_VALUE, 1), -1);
        }
    }

    private static void promise6Of() {
        ShadeVotes x = new ShadeVotes();
        x.tree(200, 4);
        x.tree(135, 6);
        x.person(184, 1);
        C.is("tree's cell", x.of(1, 0), 135);
        C.is("tree's high", x.of(1, 1), 6);
        C.is("person's cell", x.of(0, 4), 184);
        C.is("person's wish", x.of(0, 5), 1);
        C.is("no tree 2", x.of(2, 0), -1);
        C.is("no tree 2", x.of(2, 1), -1);
        C.is("no tree 2", x.of(2, 2), -1);
        C.is("no tree 2", x.of(2, 7), -1);
        C.is("no month 12", x.of(12, 3), -1);
        C.is("no one 1", x.of(1, 4), -1);
        C.is("no one 1", x.of(1, 5), -1);
        C.is("no one 1", x.of(1, 6), -1);
        C.is("number below", x.of(-1, 0), -1);
        C.is("what 8", x.of(0, 8), -1);
        C.is("what -1", x.of(0, -1), -1);
        C.is("stands", x.of(0, 7), 1);
        C.is("felled", x.noon(), 1);
        C.is("is felled", x.of(0, 7), 0);
        C.is("its cell still", x.of(0, 0), 200);
    }

    private static void promise7Feed() {
        ShadeVotes x = new ShadeVotes();
        C.is("below", x.feed(-1), -1);
        C.is("above", x.feed(256), -1);
        C.is("0", x.feed(0), 1);
        C.is("255", x.feed(255), 2);
        for (int k = 3; k <= 120; k++) C.is("more", x.feed('w'), k);
        C.is("full", x.feed('w'), -3);
        C.is("full, BAD first", x.feed(256), -1);
        C.is("it has 120", x.count(2), 120);
    }

    private static int lawOf(ShadeVotes x, String text) {
        for (int i = 0; i < text.length(); i++) x.feed(text.charAt(i));
        int answer = x.law();
        C.is("the tape is empty behind law()", x.count(2), 0);
        return answer;
    }

    private static void fault(String text, int place) {
        C.is("law of " + text, lawOf(new ShadeVotes(), text), place < 0 ? 1 : -100 - place);
    }

    private static void promise8LawFaults() {
        fault("w", -1);
        fault("", 0);
        fault("x", 0);
        fault("W", 0);
        fault("\u0000", 0);
        fault("\u00ff", 0);
        fault("w ", 1);
        fault(" w", 0);
        fault("w+", 2);
        fault("w++w", 2);
        fault("w--w", -1);
        fault("w+-w", -1);
        fault("w*!w", -1);
        fault("w!", 1);
        fault("w!w", 1);
        fault("9999", -1);
        fault("12345", 4);
        fault("0000", -1);
        fault("00000", 4);
        fault("12w", 2);
        fault("w1", 1);
        fault("(", 1);
        fault("()", 1);
        fault("(w", 2);
        fault("(w)", -1);
        fault("(w))", 3);
        fault("w)", 1);
        fault("(w?1)", 2);
        fault("(w;1)", 2);
        fault("w?1", -1);
        fault("w?", 2);
        fault("?w", 0);
        fault("w?1?2", 3);
        fault("w?1;w?2", -1);
        fault("w|n?1|2", -1);
        fault("w?((((((1))))))", -1);
        fault("w?(((((((1)))))))", 8);
        fault("((((((w))))))?1", -1);
        fault("w?1;2", -1);
        fault(";", 0);
        fault("w;", 2);
        fault("w;;w", 2);
        fault("w<1", -1);
        fault("w<1<2", 3);
        fault("w<1=2", 3);
        fault("w=1>2", 3);
        fault("(w<1)<2", -1);
        fault("w<1&w<2|w>3", -1);
        fault("w<1?w<2", -1);
        fault("w<=1", 2);
        fault("w&&1", 2);
        fault("w|", 2);
        fault("w%2/3*4-5+6", -1);
        fault("n,w", 1);
        fault("w".repeat(120), 1);
        fault("w+".repeat(60), 120);
        fault("w+".repeat(59) + "w", -1);
        fault("w;".repeat(59) + "wx", 119);
        fault("w;".repeat(59) + "1+", 120);
    }

    private static void promise8LawOpens() {
        fault("((((((w))))))", -1);
        fault("(((((((w)))))))", 6);
        fault("!!!!!!w", -1);
        fault("!!!!!!!w", 6);
        fault("------w", -1);
        fault("-------w", 6);
        fault("w-------w", -1);
        fault("w--------w", 8);
        fault("!-(!-(w))", -1);
        fault("!-(!-(-w))", 6);
        fault("!-(!-(w-w))", -1);
        fault("!-(!-(w))+!-(!-(w))", -1);
        fault("(!!!!!w+!!!!!w)*(-----1)", -1);
        fault("(!!!!!w+!!!!!!w)", 13);
        fault("((((((w", 7);
        fault("!!!!!!", 6);
    }

    /** What one of WEIGHT 3, the only one there, counts on tree 1 of HIGH 5 in month 2. */
    private static int worth(String law) {
        ShadeVotes x = new ShadeVotes();
        x.tree(0, 1);
        x.tree(200, 5);
        x.person(0, 0);
        x.person(184, 63);
        x.mend(1, 6, 3);
        C.is("law " + law, lawOf(x, law), 1);
        return x.votes(102, 1);
    }

    private static void counts(String law, int due) {
        C.is("worth by " + law, worth(law), due);
    }

    private static void promise8LawValues() {
        counts("7", 7);
        counts("0007", 7);
        counts("100-93", 7);
        counts("1021-1013", 8);
        counts("10", 9);
        counts("9999", 9);
        counts("-1", 0);
        counts("--8", 8);
        counts("1+2*3", 7);
        counts("(1+2)*3", 9);
        counts("9-4-3", 2);
        counts("9-(4-3)", 8);
        counts("80/5/4", 4);
        counts("17%10%4", 3);
        counts("-7/2+5", 2);
        counts("-7%4+5", 2);
        counts("7/0", 0);
        counts("7%0", 0);
        counts("5+7/0", 5);
        counts("8/-2+6", 2);
        counts("3<4", 1);
        counts("4<4", 0);
        counts("4=4", 1);
        counts("4=5", 0);
        counts("5>4", 1);
        counts("4>4", 0);
        counts("1+1<3", 1);
        counts("(2<3)+5", 6);
        counts("2&4", 1);
        counts("2&0", 0);
        counts("0&2", 0);
        counts("0|4", 1);
        counts("0|0", 0);
        counts("4|0&0", 1);
        counts("(4|0)&0", 0);
        counts("1|1&0|0", 1);
        counts("!5", 0);
        counts("!0", 1);
        counts("!!5", 1);
        counts("!0*7", 7);
        counts("!(0*7)+1", 2);
        counts("-2*-3", 6);
        counts("9-2*3+1", 4);
        counts("0?7;6", 6);
        counts("1?7;6", 7);
        counts("-1?7;6", 7);
        counts("0?7", 0);
        counts("0|1?0|3;5", 1);
        counts("0?7;0?8", 0);
        counts("0?7;5;6", 5);
        counts("0?7;1?0;6", 0);
        counts("0?7;0?8;0?9;4", 4);
        counts("2<1?7;2>1?3+1;9", 4);
        // As many signs as a tape can tell, and the last line counts.
        counts("0?1;".repeat(29) + "-w+h", 2);
    }

    private static void promise8LawNames() {
        counts("w", 3);
        counts("h", 5);
        counts("m", 2);
        counts("n", 1);
        counts("t", 1);
        counts("p", 1);
        counts("w+h-m*n+t-p", 6);
        // More than an int holds: it wraps.
        int wrapped = 9999 * 9999 * 9999;
        counts("9999*9999*9999%10+5", Math.max(0, Math.min(9, wrapped % 10 + 5)));
        // The least int: 2 to the 31st.
        counts("1024*1024*2048/-1<0", 1);
        counts("1024*1024*2048%-1+4", 4);
        counts("1024*1024*2048-1>0", 1);
        counts("-(1024*1024*2048)<0", 1);
    }

    private static void promise8LawKept() {
        ShadeVotes x = new ShadeVotes();
        x.tree(200, 4);
        x.person(184, 1);
        C.is("without a text", x.votes(0, 1), 1);
        C.is("a law", lawOf(x, "5"), 1);
        C.is("by the law", x.votes(0, 1), 5);
        C.is("a fault", lawOf(x, "6+"), -102);
        C.is("the law stays", x.votes(0, 1), 5);
        C.is("no bytes", x.law(), -100);
        C.is("the law stays", x.votes(0, 1), 5);
        x.feed('7');
        C.is("not yet the law", x.votes(0, 1), 5);
        C.is("one byte", x.count(2), 1);
        C.is("now", x.law(), 1);
        C.is("by the new law", x.votes(0, 1), 7);
        C.is("a shorter one", lawOf(x, "w"), 1);
        C.is("by that", x.votes(0, 1), 1);
    }
}
