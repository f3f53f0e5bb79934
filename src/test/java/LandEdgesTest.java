/**
 * The boundary cases that the document names for the land, people, mend() and the law (promises 1 to 8): one
 * function for each sentence, which stands above it.
 */
public final class LandEdgesTest {
    private static final Check C = new Check("LandEdgesTest");
    private static final int LEAST = Integer.MIN_VALUE, MOST = Integer.MAX_VALUE;

    public static void main(String[] args) {
        cellsEndAt255();
        highIs1To9();
        sixTreesAreAll();
        refusedTrees();
        tenPeopleAreAll();
        wishIsOfSixBits();
        refusedPeople();
        broadAndWeightAre1AtFirst();
        bareLand();
        rowOfPeopleEnds();
        rowOfPeopleWhenFull();
        rowOfPeopleIsOfShorts();
        rowOfPeopleRefused();
        mendHoldsBounds();
        mendRefused();
        ofHasNumbers();
        tapeHolds120();
        lawIsHeldWithin9();
        lawIntsWrap();
        lawDividesByZero();
        lawDividesTowardZero();
        lawSignsGive1Or0();
        lawFirstLineCounts();
        lawNoLineCounts();
        lawNumberHasFourDigits();
        lawSixAreOpen();
        lawFaultIsThePlace();
        lawFaultIsTheLength();
        lawWithoutText();
        lawEmptiesTheTape();
        lawOnAFullTape();
        C.end();
    }

    /** "CELLS are 16 Y and X (X, Y 0 .. 15)." */
    private static void cellsEndAt255() {
        ShadeVotes x = new ShadeVotes();
        for (int cell : new int[] {-1, 256, 257, -256, LEAST, MOST}) {
            C.is("tree in cell " + cell, x.tree(cell, 1), -1);
            C.is("one in cell " + cell, x.person(cell, 0), -1);
        }
        C.is("none came", x.count(0) + x.count(1), 0);
        for (int cell : new int[] {0, 255, 15, 16}) {
            int tree = x.tree(cell, 1);
            int one = x.person(cell, 0);
            C.is("tree in cell " + cell, x.of(tree, 0), cell);
            C.is("one in cell " + cell, x.of(one, 4), cell);
        }
        C.is("all came", x.count(0) + x.count(1), 8);
    }

    /** "TREES .. HIGH (1 .. 9)". */
    private static void highIs1To9() {
        ShadeVotes x = new ShadeVotes();
        for (int high : new int[] {0, 10, -1, LEAST, MOST}) C.is("HIGH " + high, x.tree(0, high), -1);
        C.is("the least", x.tree(0, 1), 0);
        C.is("the most", x.tree(0, 9), 1);
        C.is("the least", x.of(0, 1), 1);
        C.is("the most", x.of(1, 1), 9);
    }

    /** "TREES 0 .. 5, as they come", "BAD, FULL: 6." */
    private static void sixTreesAreAll() {
        ShadeVotes x = new ShadeVotes();
        for (int t = 0; t < 6; t++) {
            C.is("its number", x.tree(16 * t, t + 1), t);
            C.is("so many", x.count(0), t + 1);
        }
        String was = Seen.of(x);
        C.is("a seventh", x.tree(99, 3), -3);
        C.is("a seventh in no cell: BAD is named first", x.tree(256, 3), -1);
        C.is("a seventh too high", x.tree(99, 10), -1);
        C.so("as they were", was.equals(Seen.of(x)));
        x.noon();
        C.is("a felled one makes no room", x.tree(99, 3), -3);
    }

    /** "What is answered so changes nothing." Of tree(). */
    private static void refusedTrees() {
        ShadeVotes x = new ShadeVotes();
        x.tree(200, 4);
        x.image();
        String was = Seen.of(x);
        x.tree(-1, 4);
        x.tree(256, 4);
        x.tree(200, 0);
        x.tree(200, 10);
        C.so("as it was", was.equals(Seen.of(x)));
        C.is("the next number is as if it had not been asked", x.tree(0, 1), 1);
    }

    /** "PEOPLE 0 .. 9, as they come", "BAD, FULL: 10." */
    private static void tenPeopleAreAll() {
        ShadeVotes x = new ShadeVotes();
        for (int p = 0; p < 10; p++) {
            C.is("his number", x.person(p, p), p);
            C.is("so many", x.count(1), p + 1);
        }
        String was = Seen.of(x);
        C.is("an eleventh", x.person(99, 3), -3);
        C.is("an eleventh in no cell: BAD is named first", x.person(256, 3), -1);
        C.is("an eleventh with no such wish", x.person(99, 64), -1);
        C.so("as they were", was.equals(Seen.of(x)));
    }

    /** "WISH (bits 0 .. 63: which TREES he wishes felled)". */
    private static void wishIsOfSixBits() {
        ShadeVotes x = new ShadeVotes();
        for (int wish : new int[] {-1, 64, 128, LEAST, MOST}) C.is("WISH " + wish, x.person(0, wish), -1);
        C.is("none", x.person(0, 0), 0);
        C.is("all", x.person(0, 63), 1);
        C.is("none", x.of(0, 5), 0);
        C.is("all", x.of(1, 5), 63);
        // Each of the six is of its own tree.
        for (int t = 0; t < 6; t++) {
            ShadeVotes y = new ShadeVotes();
            for (int k = 0; k < 6; k++) y.tree(200, 9);
            y.person(184, 1 << t);
            C.is("falls by bit " + t, y.falls(0), 1 << t);
        }
    }

    /** "What is answered so changes nothing." Of person(). */
    private static void refusedPeople() {
        ShadeVotes x = new ShadeVotes();
        x.person(7, 7);
        String was = Seen.of(x);
        x.person(-1, 7);
        x.person(256, 7);
        x.person(7, -1);
        x.person(7, 64);
        C.so("as it was", was.equals(Seen.of(x)));
        C.is("the next number", x.person(8, 8), 1);
    }

    /** "BROAD (0 .. 3; 1 at first)", "WEIGHT (0 .. 3; 1 at first)", also of those who came last. */
    private static void broadAndWeightAre1AtFirst() {
        ShadeVotes x = new ShadeVotes();
        for (int t = 0; t < 6; t++) x.tree(t, 1);
        for (int p = 0; p < 10; p++) x.person(p, 0);
        for (int t = 0; t < 6; t++) C.is("BROAD at first", x.of(t, 2), 1);
        for (int p = 0; p < 10; p++) C.is("WEIGHT at first", x.of(p, 6), 1);
        for (int v = 0; v <= 3; v++) {
            x.mend(5, 2, v);
            x.mend(9, 6, v);
            C.is("BROAD " + v, x.of(5, 2), v);
            C.is("WEIGHT " + v, x.of(9, 6), v);
        }
        C.is("BROAD 4", x.mend(5, 2, 4), -1);
        C.is("WEIGHT 4", x.mend(9, 6, 4), -1);
        C.is("BROAD below", x.mend(5, 2, -1), -1);
        C.is("WEIGHT below", x.mend(9, 6, -1), -1);
    }

    /** "A bare land, nobody in it." Every call that tells of a tree or of one is BAD there; the others answer. */
    private static void bareLand() {
        ShadeVotes x = new ShadeVotes();
        for (int what = 0; what <= 7; what++) C.is("of(0, " + what + ")", x.of(0, what), what == 3 ? 9 : -1);
        for (int m = 0; m <= 12; m++) C.is("falls", x.falls(m), 0);
        C.is("left", x.left(11, 99), 0);
        C.is("nobody sits in any shade", x.shadiest(11, 0), -2);
        C.is("in none", x.shadiest(11, 1), 0);
        C.is("alike", x.alike(0, 0), -1);
        C.is("save", x.save(0, 0), -1);
        C.is("sits", x.sits(0, 0), -1);
        C.is("lopped", x.lopped(0), -1);
        C.is("none stand at the ends", x.drawn(1, 3000, -1), 0);
        C.is("no tree to draw", x.drawn(1, 3000, 0), -1);
        C.is("no act", x.act(0, 0, 0), 0);
        C.is("no body to keep", x.keep(0, 0), -1);
        C.is("no text", x.law(), -100);
        C.is("a noon fells none", x.noon(), 0);
        C.is("an image of it", x.image(), 1);
        ShadeVotes y = new ShadeVotes();
        C.is("it is its own: no noon there", y.led(0), 0);
        C.is("nor an image", y.back(), -5);
    }

    private static void fill(ShadeVotes x, int shelf, int sort, int... values) {
        C.is("row", x.row(shelf, sort, values.length), 1);
        for (int i = 0; i < values.length; i++) x.put(shelf, i, values[i]);
    }

    private static int fromRow(int i, int n, int... values) {
        ShadeVotes x = new ShadeVotes();
        fill(x, 3, 1, values);
        int came = x.people(3, i, n);
        C.is("so many are there", x.count(1), came);
        return came;
    }

    /** "it ends where the row is missing, ends (within a three, too), one is not so": "those ahead came". */
    private static void rowOfPeopleEnds() {
        C.is("an empty row", fromRow(0, 1), 0);
        C.is("one of a three", fromRow(0, 1, 5), 0);
        C.is("two of a three", fromRow(0, 1, 5, 5), 0);
        C.is("a three", fromRow(0, 1, 5, 5, 1), 1);
        C.is("a three and one more", fromRow(0, 2, 5, 5, 1, 5), 1);
        C.is("a three and two more", fromRow(0, 2, 5, 5, 1, 5, 5), 1);
        C.is("two threes", fromRow(0, 10, 5, 5, 1, 5, 5, 1), 2);
        C.is("n ends it ahead of the row", fromRow(0, 1, 5, 5, 1, 5, 5, 1), 1);
        C.is("the last three alone", fromRow(3, 10, 5, 5, 1, 5, 5, 1), 1);
        C.is("from within the last three", fromRow(4, 10, 5, 5, 1, 5, 5, 1), 0);
        C.is("from the end", fromRow(6, 10, 5, 5, 1, 5, 5, 1), 0);
        C.is("from behind it", fromRow(7, 10, 5, 5, 1, 5, 5, 1), 0);
        C.is("from far behind it", fromRow(MOST, 10, 5, 5, 1, 5, 5, 1), 0);
        C.is("from below", fromRow(-3, 10, 5, 5, 1, 5, 5, 1), 0);
        C.is("the edges are so", fromRow(0, 10, 0, 0, 0, 255, 63, 3), 2);
        int[][] wrong = {{-1, 0, 0}, {256, 0, 0}, {0, -1, 0}, {0, 64, 0}, {0, 0, -1}, {0, 0, 4}};
        for (int[] one : wrong) {
            C.is("the first is not so", fromRow(0, 3, one[0], one[1], one[2], 1, 1, 1), 0);
            C.is("the second is not so", fromRow(0, 3, 1, 1, 1, one[0], one[1], one[2], 1, 1, 1), 1);
        }
        // A short keeps the lowest 16 bits.
        C.is("65541 is 5, 65536 is 0", fromRow(0, 1, 65541, 65536, 65537), 1);
        ShadeVotes x = new ShadeVotes();
        C.is("a missing row", x.people(0, 0, 10), 0);
        x.row(0, 1, 3);
        x.keep(0, -1);
        C.is("one that is gone", x.people(0, 0, 10), 0);
    }

    /** "or PEOPLE are FULL: those ahead came." */
    private static void rowOfPeopleWhenFull() {
        ShadeVotes x = new ShadeVotes();
        x.row(0, 1, 60);
        C.is("all ten", x.people(0, 0, 10), 10);
        C.is("none has room", x.people(0, 0, 10), 0);
        ShadeVotes y = new ShadeVotes();
        for (int p = 0; p < 9; p++) y.person(9, 9);
        fill(y, 0, 1, 1, 2, 3, 4, 5, 2);
        C.is("one has room", y.people(0, 0, 2), 1);
        C.is("the first of them", y.of(9, 4), 1);
        C.is("ten", y.count(1), 10);
    }

    /** "-12 (no ROW of shorts; a SHELF that holds nothing is missing)". */
    private static void rowOfPeopleIsOfShorts() {
        for (int sort = 0; sort <= 4; sort++) {
            ShadeVotes x = new ShadeVotes();
            x.row(0, sort, 3);
            C.is("of sort " + sort, x.people(0, 0, 1), sort == 1 ? 1 : -12);
            x.row(0, sort, 0);
            C.is("empty, of sort " + sort, x.people(0, 0, 1), sort == 1 ? 0 : -12);
        }
        ShadeVotes y = new ShadeVotes();
        y.body(0);
        y.keep(0, 0);
        C.is("a voter", y.people(0, 0, 1), -12);
        y.keep(0, -1);
        C.is("nothing", y.people(0, 0, 1), 0);
    }

    /** "n (1 .. 10) of them", "SHELVES 0 .. 5": BAD; and nobody came then. */
    private static void rowOfPeopleRefused() {
        ShadeVotes x = new ShadeVotes();
        for (int shelf = 0; shelf < 6; shelf++) x.row(shelf, 1, 60);
        String was = Seen.of(x);
        for (int n : new int[] {0, -1, 11, LEAST, MOST}) C.is("n " + n, x.people(0, 0, n), -1);
        for (int shelf : new int[] {-1, 6, LEAST, MOST}) C.is("shelf " + shelf, x.people(shelf, 0, 1), -1);
        x.row(0, 0, 60);
        C.is("BAD is named ahead of -12", x.people(0, 0, 0), -1);
        C.is("of bytes", x.people(0, 0, 1), -12);
        x.row(0, 1, 60);
        C.so("as it was", was.equals(Seen.of(x)));
        C.is("from the last shelf", x.people(5, 0, 1), 1);
    }

    /** What mend() and of() name, its least, its most, and the number of the last that has it. */
    private static final int[][] NUMBERS = {
        {0, 0, 255, 5}, {1, 1, 9, 5}, {2, 0, 3, 5}, {3, 0, 9, 11}, {4, 0, 255, 9}, {5, 0, 63, 9}, {6, 0, 3, 9}
    };

    private static ShadeVotes fullLand() {
        ShadeVotes x = new ShadeVotes();
        for (int t = 0; t < 6; t++) x.tree(t, 2);
        for (int p = 0; p < 10; p++) x.person(p, p);
        return x;
    }

    /** "CELL (what 0), HIGH (1), BROAD (2) of a TREE, LOW (3) of a MONTH, CELL (4), WISH (5), WEIGHT (6) of one becomes v". */
    private static void mendHoldsBounds() {
        for (int[] n : NUMBERS) {
            ShadeVotes x = fullLand();
            for (int who : new int[] {0, n[3]}) {
                int was = x.of(who, n[0]);
                C.is("what " + n[0] + " to the most", x.mend(who, n[0], n[2]), was);
                C.is("it is the most", x.of(who, n[0]), n[2]);
                C.is("to the least", x.mend(who, n[0], n[1]), n[2]);
                C.is("it is the least", x.of(who, n[0]), n[1]);
                for (int v : new int[] {n[1] - 1, n[2] + 1, LEAST, MOST}) {
                    C.is("to " + v, x.mend(who, n[0], v), -1);
                    C.is("it is the least still", x.of(who, n[0]), n[1]);
                }
            }
        }
    }

    /** mend(): "BAD." Nothing is changed then, and no CHANGE came. */
    private static void mendRefused() {
        ShadeVotes x = fullLand();
        x.mend(0, 0, 77);
        x.mend(0, 0, 78);
        x.undo();
        String was = Seen.of(x);
        for (int[] n : NUMBERS) {
            for (int who : new int[] {-1, n[3] + 1, LEAST, MOST}) C.is("of " + who, x.mend(who, n[0], n[1]), -1);
            C.is("below", x.mend(0, n[0], n[1] - 1), -1);
            C.is("above", x.mend(0, n[0], n[2] + 1), -1);
        }
        for (int what : new int[] {-1, 7, 8, LEAST, MOST}) C.is("what " + what, x.mend(0, what, 1), -1);
        C.so("as it was", was.equals(Seen.of(x)));
        C.is("what was undone is done again still", x.redo(), 0);
    }

    /** of(): "As of mend() (0 to 6); of a TREE 7 whether it stands (1, 0). BAD." */
    private static void ofHasNumbers() {
        ShadeVotes x = fullLand();
        for (int[] n : NUMBERS) {
            C.so("the last has it", x.of(n[3], n[0]) >= n[1]);
            for (int who : new int[] {-1, n[3] + 1, LEAST, MOST}) C.is("of " + who, x.of(who, n[0]), -1);
        }
        for (int t = 0; t < 6; t++) C.is("stands", x.of(t, 7), 1);
        C.is("no tree 6", x.of(6, 7), -1);
        C.is("no tree -1", x.of(-1, 7), -1);
        for (int what : new int[] {-1, 8, LEAST, MOST}) C.is("what " + what, x.of(0, what), -1);
        ShadeVotes y = new ShadeVotes();
        y.tree(0, 1);
        C.is("the number of none yet", y.of(1, 0), -1);
        C.is("nobody yet", y.of(0, 5), -1);
    }

    /** "A byte (0 .. 255) comes to THE TAPE: how many it has. BAD, FULL (120)." */
    private static void tapeHolds120() {
        ShadeVotes x = new ShadeVotes();
        for (int letter : new int[] {-1, 256, LEAST, MOST}) C.is("letter " + letter, x.feed(letter), -1);
        C.is("none came", x.count(2), 0);
        C.is("the least", x.feed(0), 1);
        C.is("the most", x.feed(255), 2);
        for (int k = 3; k <= 120; k++) C.is("so many", x.feed('1'), k);
        C.is("full", x.feed('1'), -3);
        C.is("BAD is named first", x.feed(-1), -1);
        C.is("120 still", x.count(2), 120);
        C.is("byte 0 goes on with no text", x.law(), -100);
        C.is("empty again", x.count(2), 0);
        C.is("room again", x.feed('1'), 1);
    }

    private static int tell(ShadeVotes x, String text) {
        for (int i = 0; i < text.length(); i++) C.is("fed", x.feed(text.charAt(i)), i + 1);
        return x.law();
    }

    /** What the one of WEIGHT 3 in the shade of tree 1, HIGH 5, counts in month 2. */
    private static int worth(String text) {
        ShadeVotes x = new ShadeVotes();
        x.tree(0, 1);
        x.tree(200, 5);
        x.person(0, 0);
        x.person(184, 2);
        x.mend(1, 6, 3);
        C.is("law " + text, tell(x, text), 1);
        C.is("as much says yes", x.votes(102, 0), x.votes(102, 1));
        C.is("it falls if he counts", x.votes(102, 2), x.votes(102, 1) > 0 ? 1 : 0);
        return x.votes(102, 1);
    }

    /** "(held within 0 .. 9)". */
    private static void lawIsHeldWithin9() {
        C.is("8", worth("8"), 8);
        C.is("9", worth("9"), 9);
        C.is("10", worth("10"), 9);
        C.is("9999", worth("9999"), 9);
        C.is("1", worth("1"), 1);
        C.is("0", worth("0"), 0);
        C.is("-1", worth("-1"), 0);
        C.is("-9999", worth("-9999"), 0);
        C.is("the greatest int", worth("1024*1024*2048-1"), 9);
        C.is("the least int", worth("1024*1024*2048"), 0);
        // Held only at the end: within the text it may be anything.
        C.is("100 less 95", worth("100-95"), 5);
        C.is("-3 and 5", worth("-3+5"), 2);
    }

    /** "Ints that wrap". */
    private static void lawIntsWrap() {
        C.is("2 to the 31st is below 0", worth("1024*1024*2048<0"), 1);
        C.is("one less is above", worth("1024*1024*2048-1>0"), 1);
        C.is("one more wraps round again", worth("(1024*1024*2048-1)+1<0"), 1);
        C.is("- of the least int is itself", worth("-(1024*1024*2048)=1024*1024*2048"), 1);
        C.is("2 to the 32nd is 0", worth("1024*1024*4096"), 0);
        C.is("2 to the 32nd and 7", worth("1024*1024*4096+7"), 7);
        C.is("sums wrap", worth("1024*1024*2048+1024*1024*2048+4"), 4);
        C.is("the least int by -1", worth("1024*1024*2048/-1=1024*1024*2048"), 1);
        C.is("what is left of that", worth("1024*1024*2048%-1+6"), 6);
    }

    /** "by 0 they give 0". */
    private static void lawDividesByZero() {
        C.is("7 by 0", worth("7/0"), 0);
        C.is("7 % 0", worth("7%0"), 0);
        C.is("0 by 0", worth("0/0+3"), 3);
        C.is("0 % 0", worth("0%0+3"), 3);
        C.is("by what is 0", worth("7/(w-3)+2"), 2);
        C.is("in the middle", worth("8/0*5+4"), 4);
        C.is("as what is asked first", worth("7/0?5;6"), 6);
    }

    /** "/ and % toward 0". */
    private static void lawDividesTowardZero() {
        C.is("7 by 2", worth("7/2"), 3);
        C.is("-7 by 2", worth("-7/2+9"), 6);
        C.is("7 by -2", worth("7/-2+9"), 6);
        C.is("-7 by -2", worth("-7/-2"), 3);
        C.is("-1 by 2", worth("-1/2+4"), 4);
        C.is("7 % 3", worth("7%3"), 1);
        C.is("-7 % 3", worth("-7%3+5"), 4);
        C.is("7 % -3", worth("7%-3"), 1);
        C.is("-7 % -3", worth("-7%-3+5"), 4);
    }

    /** "| & < = > ! give 1, 0". */
    private static void lawSignsGive1Or0() {
        int[][] pairs = {{0, 0}, {0, 1}, {1, 0}, {1, 1}, {0, 7}, {7, 0}, {7, 7}, {7, 8}, {8, 7}};
        for (int[] p : pairs) {
            for (int below = 0; below <= 1; below++) {
                int a = below == 0 ? p[0] : -p[0];
                int b = below == 0 ? p[1] : -p[1];
                C.is(a + " or " + b, worth(a + "|" + b), a != 0 || b != 0 ? 1 : 0);
                C.is(a + " and " + b, worth(a + "&" + b), a != 0 && b != 0 ? 1 : 0);
                C.is(a + " below " + b, worth(a + "<" + b), a < b ? 1 : 0);
                C.is(a + " as " + b, worth(a + "=" + b), a == b ? 1 : 0);
                C.is(a + " above " + b, worth(a + ">" + b), a > b ? 1 : 0);
            }
        }
        C.is("not 0", worth("!0"), 1);
        C.is("not 1", worth("!1"), 0);
        C.is("not 7", worth("!7"), 0);
        C.is("not -7", worth("!-7"), 0);
        C.is("three", worth("2|0|0"), 1);
        C.is("three", worth("2&3&0"), 0);
    }

    /** "The first LINE without a first E, or whose first E is not 0, counts". */
    private static void lawFirstLineCounts() {
        C.is("without a first", worth("4;5"), 4);
        C.is("not 0", worth("1?4;5"), 4);
        C.is("below 0 is not 0", worth("-1?4;5"), 4);
        C.is("0", worth("0?4;5"), 5);
        C.is("the second of three", worth("0?4;2?6;5"), 6);
        C.is("the third", worth("0?4;0?6;5;7"), 5);
        C.is("it counts, though it says 0", worth("1?0;5"), 0);
        C.is("without a first, though it says 0", worth("0;5"), 0);
        C.is("the last of sixty on a full tape", worth("0;".repeat(59) + "5"), 0);
        C.is("the last of thirty", worth("0?1;".repeat(29) + "5"), 5);
    }

    /** "none: 0." */
    private static void lawNoLineCounts() {
        C.is("one line", worth("0?4"), 0);
        C.is("two lines", worth("0?4;w-3?5"), 0);
        C.is("thirty lines", worth("0?4;".repeat(29) + "0?4"), 0);
    }

    private static void fault(String text, int place) {
        C.is("law " + text, tell(new ShadeVotes(), text), place < 0 ? 1 : -100 - place);
    }

    /** "O = a number (1 to 4 digits)". */
    private static void lawNumberHasFourDigits() {
        fault("1", -1);
        fault("1234", -1);
        fault("9999", -1);
        fault("0000", -1);
        fault("12345", 4);
        fault("00001", 4);
        fault("w+12345", 6);
        fault("(12345)", 5);
        fault("1234w", 4);
        C.is("0009", worth("0009"), 9);
        C.is("four digits count", worth("9999-9992"), 7);
        C.is("each of them", worth("1234%1000%100%10"), 4);
        C.is("the first of them", worth("5678/1000"), 5);
    }

    /** "At most 6 of ( ! - ahead of an O are open at once." */
    private static void lawSixAreOpen() {
        for (char c : new char[] {'(', '!', '-'}) {
            String end = c == '(' ? ")" : "";
            fault(String.valueOf(c).repeat(6) + "w" + end.repeat(6), -1);
            fault(String.valueOf(c).repeat(7) + "w" + end.repeat(7), 6);
        }
        fault("(!-(!-w))", -1);
        fault("(!-(!-!w))", 6);
        fault("(!-(!-(w)))", 6);
        // Closed ones are open no more; - between two is not open at all.
        fault("!!!!!!w-!!!!!!w", -1);
        fault("((((((w))))))-((((((w))))))", -1);
        fault("(((((w)-(w)))))", -1);
        fault("(((((w)-((w))))))", -1);
        fault("(((((w)-(((w)))))))", 10);
        fault("1-1-1-1-1-1-1-1-1", -1);
        fault("w?!!!!!!w;!!!!!!w?------w", -1);
        fault("w?!!!!!!!w", 8);
        C.is("six minuses", worth("------7"), 7);
        C.is("six nots", worth("!!!!!!7"), 1);
        C.is("six brackets", worth("((((((7))))))"), 7);
    }

    /** "FAULT: the place (from 0) of the first byte with which no TEXT goes on". */
    private static void lawFaultIsThePlace() {
        fault(")", 0);
        fault("?", 0);
        fault(";", 0);
        fault("*", 0);
        fault("+1", 0);
        fault(" ", 0);
        fault("a", 0);
        fault("W", 0);
        fault("w w", 1);
        fault("ww", 1);
        fault("w(1)", 1);
        fault("1!", 1);
        fault("(1)2", 3);
        fault("(1)w", 3);
        fault("1+*2", 2);
        fault("1++2", 2);
        fault("1<<2", 2);
        fault("1<2<3", 3);
        fault("1=2=3", 3);
        fault("1>2<3", 3);
        fault("(1<2<3)", 4);
        fault("1<2&2<3", -1);
        fault("(1<2)<3", -1);
        fault("1?2?3", 3);
        fault("(1?2)", 2);
        fault("(1;2)", 2);
        fault("1;;2", 2);
        fault("1?;2", 2);
        fault("1)", 1);
        fault("(1))", 3);
        fault("()", 1);
        fault("!)", 1);
        fault("1" + (char) 0, 1);
        fault("1" + (char) 255, 1);
        fault("1".repeat(120), 4);
        fault("1;".repeat(59) + "1)", 119);
    }

    /** "the length, if it ends too early." */
    private static void lawFaultIsTheLength() {
        fault("", 0);
        fault("1+", 2);
        fault("1?", 2);
        fault("1;", 2);
        fault("1?2;", 4);
        fault("(", 1);
        fault("(1", 2);
        fault("((1)", 4);
        fault("!", 1);
        fault("-", 1);
        fault("!!!!!!", 6);
        fault("1<", 2);
        fault("1&", 2);
        fault("1;".repeat(60), 120);
        fault("1+".repeat(60), 120);
    }

    /** "Without a text: w." */
    private static void lawWithoutText() {
        ShadeVotes x = new ShadeVotes();
        x.tree(200, 5);
        x.person(184, 1);
        for (int w = 0; w <= 3; w++) {
            x.mend(0, 6, w);
            C.is("WEIGHT " + w, x.votes(0, 1), w);
        }
        C.is("a fault is no text", tell(x, "5+"), -102);
        C.is("WEIGHT 3", x.votes(0, 1), 3);
        C.is("a text", tell(x, "5"), 1);
        C.is("by it", x.votes(0, 1), 5);
        C.is("a fault behind it", tell(x, "6)"), -101);
        C.is("by the one that is the law", x.votes(0, 1), 5);
        C.is("no bytes", x.law(), -100);
        C.is("by it still", x.votes(0, 1), 5);
    }

    /** "THE TAPE is empty then." */
    private static void lawEmptiesTheTape() {
        ShadeVotes x = new ShadeVotes();
        C.is("a law", tell(x, "w+1"), 1);
        C.is("empty", x.count(2), 0);
        C.is("a fault", tell(x, "w+"), -102);
        C.is("empty", x.count(2), 0);
        C.is("nothing of the tape ahead goes on", tell(x, "1"), 1);
        C.is("empty", x.count(2), 0);
        C.is("an empty one ends too early", x.law(), -100);
        C.is("empty", x.count(2), 0);
        C.is("the first byte of the next", x.feed('w'), 1);
    }

    /** "a TEXT by THE TAPE (at most 120 bytes)". */
    private static void lawOnAFullTape() {
        C.is("119 bytes", worth("0+".repeat(59) + "7"), 7);
        C.is("120 bytes: the last one counts", worth("0+".repeat(59) + "07"), 7);
        C.is("and the first", worth("5" + "+0".repeat(59)), 5);
        C.is("120 bytes, each a sign of its own", worth("-0" + "+0".repeat(58) + "+7"), 7);
        ShadeVotes x = new ShadeVotes();
        for (int k = 0; k < 60; k++) {
            x.feed('1');
            x.feed(';');
        }
        C.is("the 121st does not come", x.feed('1'), -3);
        C.is("and is not of the text", x.law(), -220);
    }
}
