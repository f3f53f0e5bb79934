/**
 * The boundary cases that the document names for books, seats and years by draws (promises 21 to 25): one
 * function for each sentence, which stands above it.
 */
public final class BooksEdgesTest {
    private static final Check C = new Check("BooksEdgesTest");
    private static final int LEAST = Integer.MIN_VALUE, MOST = Integer.MAX_VALUE;

    public static void main(String[] args) {
        bookIsARowOfBytes();
        bookRefused();
        bookOfNoTwos();
        bookOfNoSuchMonth();
        bookFellIs0Or1();
        bookLacks();
        bookKeepsLowestBits();
        bookAsIfItStood();
        bookIsLong();
        wishesByEmptyBooks();
        wishesNone();
        wishesOfLikeOnesTheLeast();
        wishesCertain();
        saveTheLeastCell();
        saveInMostMonths();
        saveElseAsNow();
        saveRefused();
        alikeOfCellsAlone();
        alikeWithoutCells();
        alikeRefused();
        drawnYears();
        drawnClouds();
        drawnStandAgain();
        drawnSeedWraps();
        drawnRefused();
        booksChangeNothing();
        C.end();
    }

    /** The tree falls in months 5 and 6 alone: 0 is always there, 1 from 3 rows on. */
    private static ShadeVotes oak() {
        ShadeVotes x = new ShadeVotes();
        x.tree(200, 4);
        x.person(11 * 16 + 8, 1);
        x.person(9 * 16 + 8, 0);
        for (int m = 0; m < 12; m++) C.is("falls in " + m, x.falls(m), m == 5 || m == 6 ? 1 : 0);
        return x;
    }

    private static void law(ShadeVotes x, String text) {
        for (int i = 0; i < text.length(); i++) x.feed(text.charAt(i));
        C.is("law " + text, x.law(), 1);
    }

    private static void book(ShadeVotes x, int... values) {
        C.is("row", x.row(5, 0, values.length), 1);
        for (int i = 0; i < values.length; i++) x.put(5, i, values[i]);
    }

    private static void judged(ShadeVotes x, int due, int... values) {
        book(x, values);
        C.is("judged", x.judge(5, 0), due);
    }

    private static void wished(ShadeVotes x, int many, int least, int certain, int... values) {
        book(x, values);
        C.is("how many sets", x.wishes(5, 0, 0), many);
        C.is("the least", x.wishes(5, 0, 1), least);
        C.is("certain", x.wishes(5, 0, 2), certain);
    }

    /** "(a BOOK on a SHELF: BAD, -11, -12 (no ROW of bytes))". */
    private static void bookIsARowOfBytes() {
        for (int shelf = 0; shelf < 6; shelf++) {
            ShadeVotes x = oak();
            x.body(0);
            refused(x, shelf, 0, -11);
            x.keep(shelf, 0);
            refused(x, shelf, 0, -12);
            for (int sort = 0; sort <= 4; sort++) {
                x.row(shelf, sort, 0);
                C.is("judged", x.judge(shelf, 0), sort == 0 ? -2 : -12);
                if (sort != 0) refused(x, shelf, 0, -12);
            }
            x.keep(shelf, -1);
            refused(x, shelf, 0, -11);
        }
    }

    private static void refused(ShadeVotes x, int shelf, int tree, int due) {
        C.is("judge", x.judge(shelf, tree), due);
        for (int what = 0; what <= 2; what++) C.is("wishes", x.wishes(shelf, tree, what), due);
    }

    /** "BAD (-1): no such number": of a shelf, a tree, of what is told; it is named ahead of -11 and -12. */
    private static void bookRefused() {
        ShadeVotes x = new ShadeVotes();
        refused(x, 0, 0, -1);
        x.row(0, 0, 2);
        refused(x, 0, 0, -1);
        x.tree(200, 4);
        C.is("it is there now", x.judge(0, 0), -2);
        for (int shelf : new int[] {-1, 6, LEAST, MOST}) refused(x, shelf, 0, -1);
        for (int tree : new int[] {-1, 1, 6, LEAST, MOST}) {
            refused(x, 0, tree, -1);
            refused(x, 1, tree, -1);
        }
        x.row(2, 2, 2);
        for (int what : new int[] {-1, 3, LEAST, MOST}) {
            C.is("what " + what, x.wishes(0, 0, what), -1);
            C.is("of nothing", x.wishes(1, 0, what), -1);
            C.is("of ints", x.wishes(2, 0, what), -1);
        }
        C.is("ints for a tree that is not there", x.judge(2, 1), -1);
        for (int t = 1; t < 6; t++) x.tree(0, 1);
        C.is("of the last tree", x.judge(0, 5), -2);
        C.is("of none behind it", x.judge(0, 6), -1);
    }

    /** "JUDGED: the first two that is not so ..; NOT": of no twos none is not so. */
    private static void bookOfNoTwos() {
        ShadeVotes x = oak();
        judged(x, -2);
        judged(x, -2, 0, 0);
        judged(x, 0, 0, 1);
        judged(x, -2, 5, 1);
        judged(x, 0, 5, 0);
        judged(x, 1, 5, 1, 5, 0);
        judged(x, 0, 5, 0, 6, 0);
        judged(x, 2, 5, 1, 6, 1, 7, 1, 8, 1);
    }

    /** "(none such .. too)": a MONTH out of 0 .. 11. */
    private static void bookOfNoSuchMonth() {
        ShadeVotes x = oak();
        judged(x, -2, 0, 0, 11, 0);
        for (int month : new int[] {-1, 12, 13, 127, -128}) {
            for (int fell = 0; fell <= 1; fell++) {
                judged(x, 0, month, fell);
                judged(x, 1, 5, 1, month, fell, 5, 0);
                wished(x, 0, -2, 0, 5, 1, month, fell);
            }
        }
        // 12 is not month 0 of the next year, in which the tree stands; nor is -7 month 5, in which it falls.
        judged(x, 0, 12, 0);
        judged(x, 0, -7, 1);
        judged(x, 0, 17, 1);
    }

    /** "whether it FELL (0, 1 ..)". */
    private static void bookFellIs0Or1() {
        ShadeVotes x = oak();
        for (int fell : new int[] {2, -1, 3, 127, -128}) {
            judged(x, 0, 5, fell);
            judged(x, 0, 0, fell);
            judged(x, 1, 5, 1, 0, fell);
            wished(x, 0, -2, 0, 5, fell);
            wished(x, 0, -2, 0, 0, 0, 5, fell);
        }
    }

    /** "(.. lacking, too)". */
    private static void bookLacks() {
        ShadeVotes x = oak();
        judged(x, 0, 5);
        judged(x, 0, 0);
        judged(x, 1, 5, 1, 0);
        judged(x, 2, 5, 1, 6, 1, 5);
        judged(x, 0, 5, 0, 0);
        wished(x, 0, -2, 0, 5);
        wished(x, 0, -2, 0, 5, 1, 6);
        // A row of 59 bytes: its thirtieth two lacks.
        int[] long1 = new int[59];
        judged(x, 29, long1);
        wished(x, 0, -2, 0, long1);
    }

    /** "what is put in keeps its lowest bits": 256 and 5 is month 5, 257 is 1. */
    private static void bookKeepsLowestBits() {
        ShadeVotes x = oak();
        judged(x, -2, 261, 257, 256, 512);
        judged(x, 0, 261, 256);
        judged(x, 0, 128, 0);
    }

    /** "(.. each as if it stood till then)". */
    private static void bookAsIfItStood() {
        ShadeVotes x = oak();
        judged(x, -2, 5, 1, 5, 1, 6, 1, 5, 1);
        judged(x, 1, 5, 1, 6, 0);
        wished(x, 2, 1, 1, 5, 1, 6, 1);
        for (int k = 0; k < 6; k++) x.noon();
        C.is("felled", x.of(0, 7), 0);
        judged(x, -2, 5, 1, 0, 0, 6, 1);
        judged(x, 1, 0, 0, 5, 0);
        wished(x, 2, 1, 1, 5, 1, 6, 1);
    }

    /** "a ROW .. of 0 .. 60 elements": thirty twos. */
    private static void bookIsLong() {
        ShadeVotes x = oak();
        int[] twos = new int[60];
        for (int two = 0; two < 30; two++) {
            twos[2 * two] = two % 12;
            twos[2 * two + 1] = two % 12 == 5 || two % 12 == 6 ? 1 : 0;
        }
        judged(x, -2, twos);
        wished(x, 1, 1, 1, twos);
        for (int two : new int[] {0, 17, 28, 29}) {
            judged(x, two, wrongAt(twos, two));
            wished(x, 0, -2, 0, wrongAt(twos, two));
        }
    }

    private static int[] wrongAt(int[] twos, int two) {
        int[] wrong = twos.clone();
        wrong[2 * two + 1] = 1 - wrong[2 * two + 1];
        return wrong;
    }

    /** WISHES by a book in which nothing stands: all sets of people. */
    private static void wishesByEmptyBooks() {
        ShadeVotes x = new ShadeVotes();
        x.tree(200, 4);
        for (int p = 0; p <= 10; p++) {
            wished(x, 1 << p, 0, 0);
            if (p < 10) C.is("one more", x.person(0, 63), p);
        }
        wished(x, 1024, 0, 0, 0, 0);
        ShadeVotes y = new ShadeVotes();
        y.tree(200, 4);
        wished(y, 1, 0, 0, 0, 0);
        wished(y, 0, -2, 0, 0, 1);
    }

    /** "NOT (by what is told: none: 0)": "the least (1; NOT), CERTAIN (2; none: 0)". */
    private static void wishesNone() {
        ShadeVotes x = oak();
        wished(x, 0, -2, 0, 5, 1, 5, 0);
        wished(x, 0, -2, 0, 5, 0, 6, 1);
        // 0 alone in month 5, 0 and 1 in month 4: if 0 does not wish it, it can never be that it fell in both.
        wished(x, 0, -2, 0, 5, 0, 4, 1);
        x.mend(5, 3, 0);
        wished(x, 0, -2, 0, 5, 1);
        wished(x, 4, 0, 0, 5, 0);
        law(x, "0");
        wished(x, 0, -2, 0, 4, 1);
        wished(x, 4, 0, 0, 4, 0);
    }

    /** "by how many sets of PEOPLE (bits) who wish it (others do not) all is so; the least". */
    private static void wishesOfLikeOnesTheLeast() {
        ShadeVotes x = new ShadeVotes();
        x.tree(200, 4);
        for (int p = 0; p < 10; p++) x.person(11 * 16 + 8, 0);
        wished(x, 386, 63, 0, 5, 1);
        wished(x, 638, 0, 0, 5, 0);
        x.mend(9, 6, 3);
        C.is("twelve in all", x.votes(5, 1), 12);
        // More than 6 of 12: 9, who counts 3, and four of the nine others, or seven of the nine.
        book(x, 5, 1);
        C.is("the least: seven of nine", x.wishes(5, 0, 1), 127);
        int sets = 0;
        for (int set = 0; set < 1024; set++) {
            if (Integer.bitCount(set) + 2 * (set >> 9) > 6) sets++;
        }
        C.is("so many", x.wishes(5, 0, 0), sets);
        C.is("none is certain", x.wishes(5, 0, 2), 0);
    }

    /** "CERTAIN: who (bits) is in all of them". */
    private static void wishesCertain() {
        ShadeVotes x = new ShadeVotes();
        x.tree(200, 4);
        for (int p = 0; p < 10; p++) x.person(p == 9 ? 11 * 16 + 8 : 0, 0);
        wished(x, 512, 512, 512, 5, 1);
        wished(x, 512, 0, 0, 5, 0);
        x.mend(0, 4, 11 * 16 + 8);
        wished(x, 256, 513, 513, 5, 1);
        wished(x, 768, 0, 0, 5, 0);
        law(x, "p=0?9;1");
        wished(x, 512, 1, 1, 5, 1);
        x.mend(9, 4, 0);
        for (int p = 1; p < 10; p++) x.mend(p, 4, 11 * 16 + 8);
        law(x, "1");
        wished(x, 386, 63, 0, 5, 1);
        ShadeVotes y = new ShadeVotes();
        y.tree(200, 4);
        y.person(11 * 16 + 8, 0);
        wished(y, 1, 1, 1, 5, 1);
        wished(y, 1, 0, 0, 5, 0);
    }

    private static void seat(ShadeVotes x, int to, int where, int months) {
        C.is("where " + to, x.save(to, 0), where);
        C.is("in how many months " + to, x.save(to, 1), months);
    }

    /** SAVE: "the least CELL in which one of PEOPLE should sit". */
    private static void saveTheLeastCell() {
        ShadeVotes x = new ShadeVotes();
        x.tree(200, 4);
        x.person(200, 0);
        seat(x, 0, 0, 12);
        x.sits(0, 255);
        seat(x, 0, 0, 12);
        x.person(11 * 16 + 8, 1);
        // Two rows of shade in months 5 and 6: the upper one, its least column.
        seat(x, 0, 10 * 16 + 7, 12);
        x.mend(0, 2, 0);
        seat(x, 0, 10 * 16 + 8, 12);
        x.mend(0, 0, 16 + 3);
        x.mend(1, 4, 3);
        seat(x, 0, 3, 12);
        x.mend(0, 2, 3);
        seat(x, 0, 0, 12);
        // The last cell of the land: the tree's own row is below it.
        ShadeVotes y = new ShadeVotes();
        y.tree(255, 1);
        y.mend(0, 2, 0);
        for (int m = 0; m < 12; m++) y.mend(m, 3, 3);
        y.person(14 * 16 + 15, 1);
        y.person(0, 0);
        seat(y, 1, 14 * 16 + 15, 12);
        seat(y, 0, 0, 12);
    }

    /** "so that a TREE .. stands in most MONTHS: it; in how many." */
    private static void saveInMostMonths() {
        ShadeVotes x = new ShadeVotes();
        x.tree(200, 9);
        x.person(11 * 16 + 8, 1);
        x.mend(0, 6, 3);
        x.person(0, 0);
        for (int w = 0; w <= 3; w++) {
            x.mend(1, 6, w);
            // 9 by 2 by 3: six rows at least, from row 6 on.
            seat(x, 1, w < 3 ? 0 : 6 * 16 + 7, w < 3 ? 0 : 12);
        }
        x.mend(1, 5, 1);
        seat(x, 1, 0, 0);
        // In the sun from the shade that fells the tree only in some months.
        x.mend(5, 3, 0);
        x.mend(1, 5, 0);
        x.mend(1, 6, 0);
        seat(x, 1, 0, 1);
        x.mend(0, 6, 0);
        seat(x, 1, 0, 12);
    }

    /** "else as now": he himself, whether he sits in it now or not, with the law and the others as they are. */
    private static void saveElseAsNow() {
        ShadeVotes x = new ShadeVotes();
        x.tree(200, 4);
        x.person(11 * 16 + 8, 1);
        x.person(11 * 16 + 9, 0);
        C.is("he keeps it up where he sits", x.falls(12), 1);
        seat(x, 1, 10 * 16 + 7, 12);
        seat(x, 0, 0, 12);
        C.is("he sits as he did", x.of(1, 4), 11 * 16 + 9);
        law(x, "n=2?9-p*9;p=0?0;w");
        // 0 counts 9 of two, but nothing alone.
        C.is("it falls by the two", x.falls(12), 0);
        seat(x, 1, 0, 12);
        law(x, "m<6");
        C.is("it stands by two", x.falls(12), 1);
        seat(x, 1, 10 * 16 + 7, 12);
        x.mend(1, 5, 1);
        seat(x, 1, 0, 6);
    }

    /** SAVE: "(to: 100 times the TREE, and who)", "BAD." */
    private static void saveRefused() {
        ShadeVotes x = new ShadeVotes();
        for (int to : new int[] {0, 1, 100, -1, LEAST, MOST}) C.is("to " + to, x.save(to, 0), -1);
        x.tree(0, 1);
        C.is("nobody yet", x.save(0, 0), -1);
        x.person(0, 0);
        C.is("one", x.save(0, 1), 12);
        for (int to : new int[] {1, 10, 99, 100, 101, -1, -100, LEAST, MOST}) {
            C.is("where " + to, x.save(to, 0), -1);
            C.is("in how many " + to, x.save(to, 1), -1);
        }
        for (int what : new int[] {-1, 2, LEAST, MOST}) C.is("what " + what, x.save(0, what), -1);
        for (int t = 1; t < 6; t++) x.tree(200, 4);
        for (int p = 1; p < 10; p++) x.person(p == 1 ? 11 * 16 + 8 : 0, p == 1 ? 62 : 0);
        seat(x, 509, 10 * 16 + 7, 12);
        seat(x, 500, 10 * 16 + 7, 12);
        seat(x, 501, 0, 12);
        seat(x, 9, 0, 12);
        // The last tree alone is where nobody sits.
        x.mend(5, 0, 3);
        seat(x, 509, 0, 12);
        seat(x, 500, 0, 12);
        seat(x, 409, 10 * 16 + 7, 12);
        C.is("nobody numbered 10", x.save(510, 0), -1);
        C.is("no tree 6", x.save(600, 0), -1);
        C.is("no tree 6", x.save(609, 1), -1);
    }

    /** "ALIKE: whether two TREES have the same SHADE in a MONTH (1, 0), of CELLS alone." */
    private static void alikeOfCellsAlone() {
        ShadeVotes x = new ShadeVotes();
        x.tree(200, 4);
        x.tree(200, 4);
        x.person(11 * 16 + 8, 1);
        C.is("whatever is wished", x.alike(1, 0), 1);
        x.mend(1, 1, 5);
        int[] rows4 = {12, 10, 8, 5, 4, 2, 2, 4, 5, 8, 10, 12};
        int[] rows5 = {12, 12, 10, 6, 5, 3, 3, 5, 6, 10, 12, 12};
        for (int m = 0; m < 12; m++) {
            C.is("in month " + m, x.alike(1, m), rows4[m] == rows5[m] ? 1 : 0);
            C.is("the other way round", x.alike(10, m), rows4[m] == rows5[m] ? 1 : 0);
            C.is("itself", x.alike(11, m), 1);
        }
        x.mend(1, 1, 4);
        x.mend(1, 2, 2);
        C.is("broader", x.alike(1, 5), 0);
        x.mend(1, 2, 1);
        x.mend(1, 0, 201);
        C.is("as many cells, but others", x.alike(1, 5), 0);
        // At the land's edge what is without the land does not part them.
        x.mend(0, 0, 16 * 5 + 15);
        x.mend(1, 0, 16 * 5 + 14);
        x.mend(0, 2, 2);
        C.is("columns 13 to 15 both", x.alike(1, 0), 1);
        x.mend(0, 0, 16 * 5 + 14);
        C.is("columns 12 to 15 and 13 to 15", x.alike(1, 0), 0);
        // One cell alone parts them: the first of the land, or the last that can have shade.
        for (int cell : new int[] {0, 14 * 16 + 15}) {
            ShadeVotes y = new ShadeVotes();
            y.tree(cell + 16, 1);
            y.tree(3, 1);
            y.mend(0, 2, 0);
            y.mend(0, 3, 3);
            C.is("one cell and none", y.alike(1, 0), 0);
            C.is("none and one cell", y.alike(10, 0), 0);
        }
    }

    /** Two that have no cells have the same: none. */
    private static void alikeWithoutCells() {
        ShadeVotes x = new ShadeVotes();
        x.tree(3, 9);
        x.tree(200, 1);
        C.is("none, and two rows", x.alike(1, 1), 0);
        C.is("HIGH 1 has none in month 5", x.alike(1, 5), 1);
        C.is("the other way round", x.alike(10, 5), 1);
        x.tree(100, 9);
        x.person(11 * 16 + 8, 2);
        C.is("felled", x.noon(), 2);
        C.is("none of a felled one", x.alike(1, 1), 1);
        C.is("a felled one and one that stands", x.alike(12, 1), 0);
        C.is("one that stands and a felled one", x.alike(21, 1), 0);
        C.is("a felled one and itself", x.alike(11, 1), 1);
    }

    /** ALIKE: "(ab: 10 times the one TREE and the other; a MONTH). BAD." */
    private static void alikeRefused() {
        ShadeVotes x = new ShadeVotes();
        C.is("no trees", x.alike(0, 0), -1);
        for (int t = 0; t < 5; t++) {
            x.tree(0, 1);
            C.is("the last", x.alike(11 * t, 0), 1);
            C.is("the other is not there yet", x.alike(t + 1, 0), -1);
            C.is("the one is not there yet", x.alike(10 * t + 10, 0), -1);
        }
        x.tree(0, 1);
        for (int ab : new int[] {6, 9, 16, 60, 66, 100, 500, -1, -10, LEAST, MOST}) C.is("ab " + ab, x.alike(ab, 0), -1);
        for (int month : new int[] {-1, 12, LEAST, MOST}) C.is("month " + month, x.alike(0, month), -1);
        C.is("the last two in the last month", x.alike(55, 11), 1);
    }

    /** "DRAWN: n years (1 .. 30) of 12 MONTHS". */
    private static void drawnYears() {
        ShadeVotes x = oak();
        x.tree(0, 1);
        for (int n = 1; n <= 30; n++) {
            C.is("falls once each year", x.drawn(3, 100 * n, 0), n);
            C.is("the other never", x.drawn(3, 100 * n, 1), 0);
            C.is("one stands each year", x.drawn(3, 100 * n, -1), n);
        }
        C.is("no years", x.drawn(3, 0, 0), -1);
        C.is("31 years", x.drawn(3, 3100, 0), -1);
        C.is("31 years", x.drawn(3, 3100, -1), -1);
    }

    /** "it is cloudy (nobody votes), if (z >>> 8) % 12 is below CLOUDS (0 .. 12, told)". */
    private static void drawnClouds() {
        ShadeVotes x = oak();
        C.is("never cloudy", x.drawn(3, 3000, 0), 30);
        C.is("always cloudy", x.drawn(3, 3012, 0), 0);
        C.is("always cloudy: all stand", x.drawn(3, 3012, -1), 30);
        C.is("13 clouds", x.drawn(3, 3013, 0), -1);
        C.is("99 clouds", x.drawn(3, 199, 0), -1);
        // One month alone fells it: what its draw leaves of 12 is where the clouds begin to save it.
        for (int month = 0; month < 12; month++) {
            for (int m = 0; m < 12; m++) x.mend(m, 3, m == month ? 2 : 0);
            for (int seed : new int[] {0, 1, -1, 77, LEAST, MOST}) {
                int z = seed;
                for (int m = 0; m <= month; m++) z = z * 1103515245 + 12345;
                int left = (z >>> 8) % 12;
                for (int clouds = 0; clouds <= 12; clouds++) {
                    C.is("month " + month + ", " + clouds, x.drawn(seed, 100 + clouds, 0), left < clouds ? 0 : 1);
                    C.is("stands at the end", x.drawn(seed, 100 + clouds, -1), left < clouds ? 1 : 0);
                }
            }
        }
    }

    /** "each year all TREES that stand now stand again"; "how many stand at the ends, all together". */
    private static void drawnStandAgain() {
        ShadeVotes x = new ShadeVotes();
        for (int t = 0; t < 6; t++) x.tree(200, 4);
        x.person(11 * 16 + 8, 7);
        C.is("falls in each of 30 years", x.drawn(9, 3000, 2), 30);
        C.is("the last never", x.drawn(9, 3000, 5), 0);
        C.is("three stand at each end", x.drawn(9, 3000, -1), 90);
        C.is("six stand at each end of cloudy years", x.drawn(9, 3012, -1), 180);
        x.mend(0, 5, 1);
        C.is("felled in deed", x.noon(), 1);
        C.is("does not stand again", x.drawn(9, 3000, 0), 0);
        C.is("five stand at each end", x.drawn(9, 3000, -1), 150);
        C.is("from month 0, whatever the month", x.led(4), 1);
        ShadeVotes y = new ShadeVotes();
        C.is("no trees stand", y.drawn(9, 3000, -1), 0);
    }

    /** "z = z * 1103515245 + 12345 (an int; SEED at first) ahead of each MONTH". */
    private static void drawnSeedWraps() {
        ShadeVotes x = oak();
        for (int m = 0; m < 12; m++) x.mend(m, 3, 2);
        for (int seed : new int[] {LEAST, LEAST + 1, -1, 0, 1, 123456, MOST - 1, MOST}) {
            int fell = 0;
            java.math.BigInteger z = java.math.BigInteger.valueOf(seed);
            for (int year = 0; year < 30; year++) {
                boolean falls = false;
                for (int m = 0; m < 12; m++) {
                    z = z.multiply(java.math.BigInteger.valueOf(1103515245)).add(java.math.BigInteger.valueOf(12345));
                    z = z.mod(java.math.BigInteger.ONE.shiftLeft(32));
                    falls |= z.shiftRight(8).intValue() % 12 >= 11;
                }
                if (falls) fell++;
            }
            C.is("seed " + seed, x.drawn(seed, 3011, 0), fell);
            C.is("seed " + seed, x.drawn(seed, 3011, -1), 30 - fell);
        }
    }

    /** DRAWN: "(nc: 100 n, and CLOUDS)", "(tree 0 on)", "(-1)", "BAD." */
    private static void drawnRefused() {
        ShadeVotes x = oak();
        for (int nc : new int[] {0, 1, 12, 99, 113, 199, 3013, 3100, -1, -100, -112, LEAST, MOST}) {
            C.is("nc " + nc, x.drawn(3, nc, 0), -1);
            C.is("nc " + nc, x.drawn(3, nc, -1), -1);
        }
        for (int tree : new int[] {-2, 1, 6, LEAST, MOST}) C.is("tree " + tree, x.drawn(3, 100, tree), -1);
        C.is("tree 0", x.drawn(3, 100, 0), 1);
        C.is("the edge of both", x.drawn(3, 3012, 0), 0);
        ShadeVotes y = new ShadeVotes();
        C.is("no tree", y.drawn(3, 100, 0), -1);
        C.is("the ends", y.drawn(3, 100, -1), 0);
    }

    /** Books, seats and draws change nothing, answered or refused. */
    private static void booksChangeNothing() {
        ShadeVotes x = oak();
        x.tree(202, 4);
        book(x, 5, 1, 0, 0, 4, 1);
        String was = Seen.of(x);
        for (int tree = -1; tree <= 2; tree++) {
            for (int shelf = 4; shelf <= 6; shelf++) {
                x.judge(shelf, tree);
                for (int what = -1; what <= 3; what++) x.wishes(shelf, tree, what);
            }
            for (int one = 0; one <= 2; one++) x.save(100 * tree + one, one);
            for (int m = -1; m <= 12; m++) x.alike(10 * tree, m);
            for (int nc = 0; nc <= 3100; nc += 100) x.drawn(4, nc + 3, tree);
        }
        C.so("as it was", was.equals(Seen.of(x)));
    }
}
