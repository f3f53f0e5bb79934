/**
 * The boundary cases that the document names for noons in thought (promises 9 to 20): one function for each
 * sentence, which stands above it.
 */
public final class ThoughtEdgesTest {
    private static final Check C = new Check("ThoughtEdgesTest");
    private static final int LEAST = Integer.MIN_VALUE, MOST = Integer.MAX_VALUE;
    private static final int[] LOW = {9, 8, 6, 4, 3, 2, 2, 3, 4, 6, 8, 9};

    public static void main(String[] args) {
        shadeIsAbove();
        shadeIsCut();
        shadeIsNoBroader();
        shadeEndsWithTheLand();
        felledHasNoShade();
        moreThanHalf();
        somebodyCounts();
        eachTreeAndMonth();
        treesAndMonthsAreThere();
        whatIsThere();
        fallsIn0To11And12();
        firstGoesRound();
        leftOfNoNoons();
        leftGoesRound();
        turnOfLikeOnesTheLeast();
        turnNot();
        turnTakesAll();
        chairOfThoseInTheShade();
        powerNotInIt();
        powerInLowestTerms();
        powerRefused();
        lopFrom0On();
        lopHigh1AtLeast();
        growTo9();
        byTurnsOneToFour();
        byTurnsNobody();
        byTurnsOfLikeOnes();
        byTurnsDoTheirBest();
        deepestOfLikeOnes();
        shadiestOfLikeOnes();
        shadiestNot();
        thoughtChangesNothing();
        thoughtIsAsItWasAsked();
        C.end();
    }

    private static void law(ShadeVotes x, String text) {
        for (int i = 0; i < text.length(); i++) x.feed(text.charAt(i));
        C.is("law " + text, x.law(), 1);
    }

    /** A tree of HIGH 4 in row 12, column 8, the only one. */
    private static ShadeVotes oak() {
        ShadeVotes x = new ShadeVotes();
        C.is("oak", x.tree(12 * 16 + 8, 4), 0);
        return x;
    }

    /** "THE SHADE .. is all CELLS above it (Y less by 1 and more)". */
    private static void shadeIsAbove() {
        ShadeVotes x = oak();
        x.person(11 * 16 + 8, 0);
        x.person(12 * 16 + 8, 0);
        x.person(13 * 16 + 8, 0);
        x.person(12 * 16 + 7, 0);
        x.person(12 * 16 + 9, 0);
        x.person(8, 0);
        C.is("the row above, and the twelfth above it", x.shade(0), 33);
        C.is("the row above alone", x.shade(1), 1);
    }

    /** "as many rows as HIGH times LOW by 3 (cut)". */
    private static void shadeIsCut() {
        for (int high = 1; high <= 9; high++) {
            ShadeVotes x = new ShadeVotes();
            x.tree(15 * 16, high);
            x.mend(0, 2, 0);
            for (int low = 0; low <= 9; low++) {
                x.mend(3, 3, low);
                int rows = 0;
                for (int three = 3; three <= high * low && rows < 15; three += 3) rows++;
                C.is("rows of HIGH " + high + ", LOW " + low, x.votes(3, 3), rows);
            }
        }
        ShadeVotes y = new ShadeVotes();
        y.tree(15 * 16, 1);
        y.person(14 * 16, 0);
        y.person(13 * 16, 0);
        int[] due = {0, 0, 0, 1, 1, 1, 3, 3, 3, 3};
        for (int low = 0; low <= 9; low++) {
            y.mend(0, 3, low);
            C.is("who sits there by LOW " + low, y.shade(0), due[low]);
        }
    }

    /** "X no farther from its own than BROAD." */
    private static void shadeIsNoBroader() {
        for (int broad = 0; broad <= 3; broad++) {
            ShadeVotes x = oak();
            x.mend(0, 2, broad);
            for (int aside = -4; aside <= 4; aside++) x.person(11 * 16 + 8 + aside, 0);
            int due = 0;
            for (int aside = -broad; aside <= broad; aside++) due |= 1 << aside + 4;
            C.is("BROAD " + broad, x.shade(5), due);
            C.is("cells", x.votes(5, 3), 2 * (2 * broad + 1));
        }
    }

    /** "COUNT: CELLS of a SHADE (within the land)." */
    private static void shadeEndsWithTheLand() {
        for (int column = 0; column < 16; column++) {
            for (int broad = 0; broad <= 3; broad++) {
                ShadeVotes x = new ShadeVotes();
                x.tree(2 * 16 + column, 9);
                x.mend(0, 2, broad);
                int columns = Math.min(15, column + broad) - Math.max(0, column - broad) + 1;
                C.is("column " + column + ", BROAD " + broad, x.votes(0, 3), 2 * columns);
                C.is("as many in month 6", x.votes(6, 3), 2 * columns);
            }
        }
        for (int row = 0; row < 16; row++) {
            ShadeVotes x = new ShadeVotes();
            x.tree(row * 16 + 8, 9);
            C.is("row " + row, x.votes(0, 3), 3 * row);
            C.is("row " + row, x.votes(6, 3), 3 * Math.min(row, 6));
        }
        ShadeVotes y = new ShadeVotes();
        y.tree(16, 9);
        y.tree(31, 9);
        y.person(15, 0);
        y.person(0, 0);
        C.is("none round the left edge", y.shade(0), 2);
        C.is("none round the right edge", y.shade(100), 1);
    }

    /** "A TREE that is felled has none, nobody sits in it, it does not FALL, is none of those that LOP, GROW, TURN tell of: NOT." */
    private static void felledHasNoShade() {
        ShadeVotes x = oak();
        x.person(11 * 16 + 8, 1);
        x.person(11 * 16 + 9, 0);
        x.mend(0, 6, 2);
        C.is("felled", x.noon(), 1);
        for (int m = 0; m < 12; m++) {
            C.is("no cells", x.votes(m, 3), 0);
            C.is("nobody sits in it", x.shade(m), 0);
            C.is("no yes", x.votes(m, 0), 0);
            C.is("nobody counts", x.votes(m, 1), 0);
            C.is("it does not fall", x.votes(m, 2), 0);
            C.is("nor is it of those that do", x.falls(m), 0);
            C.is("first", x.first(m), -2);
            C.is("turn: how many", x.turn(m, 0), -2);
            C.is("turn: who", x.turn(m, 1), -2);
            C.is("lop", x.lop(m, 0), -2);
            C.is("grow", x.lop(m, 1), -2);
            C.is("hangs on nobody", x.chair(m), 0);
            C.is("power", x.power(m, 0, 0), 0);
            C.is("by 1", x.power(m, 0, 1), 1);
            for (int n = 1; n <= 4; n++) C.is("by turns", x.byTurns(m, 10 * n), 0);
            C.is("of no shade, nobody", x.shadiest(m, 0), -2);
            C.is("of no shade, none", x.shadiest(m, 1), 0);
            C.is("it is not left", x.left(m, 0), 0);
        }
        C.is("it never falls", x.falls(12), 1);
        C.is("the first month", x.deepest(0, 0), 0);
        C.is("nobody", x.deepest(0, 1), 0);
        C.is("BAD is still that", x.turn(0, 2), -1);
        C.is("BAD is still that", x.lop(12, 0), -1);
    }

    /** "if those in its SHADE who wish it count more than half of all in its SHADE". */
    private static void moreThanHalf() {
        ShadeVotes x = oak();
        x.person(11 * 16 + 8, 1);
        x.person(11 * 16 + 8, 0);
        int[][] weights = {{1, 0, 1}, {1, 1, 0}, {2, 1, 1}, {2, 2, 0}, {2, 3, 0}, {3, 2, 1}, {3, 3, 0}, {0, 1, 0}};
        for (int[] w : weights) {
            x.mend(0, 6, w[0]);
            x.mend(1, 6, w[1]);
            C.is("yes", x.votes(5, 0), w[0]);
            C.is("all", x.votes(5, 1), w[0] + w[1]);
            C.is(w[0] + " of " + (w[0] + w[1]), x.votes(5, 2), w[2]);
            C.is("so in falls()", x.falls(5), w[2]);
        }
        // Ten who each count 9: 54 of 90 fell it, 45 do not.
        ShadeVotes y = oak();
        for (int p = 0; p < 10; p++) y.person(11 * 16 + 8, p < 5 ? 1 : 0);
        law(y, "9");
        C.is("45 of 90", y.votes(5, 0), 45);
        C.is("of 90", y.votes(5, 1), 90);
        C.is("half", y.votes(5, 2), 0);
        y.mend(9, 5, 1);
        C.is("54 of 90", y.votes(5, 0), 54);
        C.is("more than half", y.votes(5, 2), 1);
    }

    /** "(somebody counts)". */
    private static void somebodyCounts() {
        ShadeVotes x = oak();
        C.is("nobody is there", x.votes(5, 2), 0);
        x.person(11 * 16 + 8, 1);
        x.mend(0, 6, 0);
        C.is("one is there, who does not count", x.shade(5), 1);
        C.is("it does not fall", x.votes(5, 2), 0);
        C.is("nor in any month", x.falls(12), 1);
        law(x, "-5");
        C.is("counts 0 at least", x.votes(5, 1), 0);
        C.is("it does not fall", x.votes(5, 2), 0);
        law(x, "1");
        C.is("counts by the law", x.votes(5, 2), 1);
    }

    /** "(tm: 100 times the TREE, and the MONTH)": by the law each tree falls in each other month, by its one below it. */
    private static void eachTreeAndMonth() {
        ShadeVotes x = new ShadeVotes();
        for (int t = 0; t < 6; t++) {
            x.tree(15 * 16 + 2 * t, t + 1);
            x.mend(t, 2, 0);
            x.person(14 * 16 + 2 * t, 63);
        }
        for (int m = 0; m < 12; m++) x.mend(m, 3, 9);
        law(x, "(t+m)%2");
        for (int t = 0; t < 6; t++) {
            for (int m = 0; m < 12; m++) lookAt(x, t, m);
        }
    }

    private static void lookAt(ShadeVotes x, int t, int m) {
        int tm = 100 * t + m;
        boolean falls = (t + m) % 2 == 1;
        C.is("shade", x.shade(tm), 1 << t);
        C.is("yes", x.votes(tm, 0), falls ? 1 : 0);
        C.is("all", x.votes(tm, 1), falls ? 1 : 0);
        C.is("whether", x.votes(tm, 2), falls ? 1 : 0);
        C.is("cells", x.votes(tm, 3), Math.min(15, 3 * (t + 1)));
        C.is("first", x.first(tm), falls ? m : (m + 1) % 12);
        C.is("how many turn it", x.turn(tm, 0), falls ? 1 : -2);
        C.is("who turns it", x.turn(tm, 1), falls ? 1 << t : -2);
        C.is("chair", x.chair(tm), falls ? 1 << t : 0);
        for (int p = 0; p < 6; p++) fraction(x, tm, p, falls && p == t ? 1 : 0, 1);
        C.is("lop", x.lop(tm, 0), falls ? -2 : 0);
        C.is("grow", x.lop(tm, 1), falls ? 0 : -2);
        C.is("by turns", x.byTurns(tm, 10), falls ? 1 : 0);
        C.is("the move", x.byTurns(tm, 11), falls && t == 0 ? 1 : 0);
        C.is("by two turns", x.byTurns(tm, 20), falls ? 1 : 0);
        C.is("the move: another comes", x.byTurns(tm, 21), falls && t == 0 ? 1 : 0);
    }

    /** "(tm: 100 times the TREE, and the MONTH)": "BAD (-1): no such number". */
    private static void treesAndMonthsAreThere() {
        ShadeVotes x = new ShadeVotes();
        int[] wrong = {-1, -100, 12, 13, 99, 112, 512, 599, 600, 611, 700, LEAST, MOST};
        for (int trees = 0; trees <= 6; trees++) {
            for (int tm : wrong) refused(x, tm);
            if (trees < 6) {
                refused(x, 100 * trees);
                refused(x, 100 * trees + 11);
            }
            if (trees > 0) {
                C.is("the first month of the last", x.shade(100 * trees - 100), 0);
                C.is("its last month", x.shade(100 * trees - 89), 0);
                C.is("behind that", x.shade(100 * trees - 88), -1);
            }
            x.tree(0, 1);
            if (trees == 0) x.person(0, 0);
        }
    }

    private static void refused(ShadeVotes x, int tm) {
        C.is("shade(" + tm + ")", x.shade(tm), -1);
        for (int what = 0; what <= 3; what++) C.is("votes(" + tm + ")", x.votes(tm, what), -1);
        C.is("first(" + tm + ")", x.first(tm), -1);
        C.is("turn(" + tm + ")", x.turn(tm, 0), -1);
        C.is("chair(" + tm + ")", x.chair(tm), -1);
        C.is("power(" + tm + ")", x.power(tm, 0, 0), Long.MIN_VALUE);
        C.is("lop(" + tm + ")", x.lop(tm, 0), -1);
        C.is("grow(" + tm + ")", x.lop(tm, 1), -1);
        C.is("byTurns(" + tm + ")", x.byTurns(tm, 10), -1);
    }

    /** "or it is not as said": what, part, n, months and trees out of what the promises name. */
    private static void whatIsThere() {
        ShadeVotes x = oak();
        x.person(0, 0);
        String was = Seen.of(x);
        for (int what : new int[] {-1, LEAST, MOST, 4}) C.is("votes", x.votes(0, what), -1);
        for (int what : new int[] {-1, LEAST, MOST, 2}) {
            C.is("turn", x.turn(0, what), -1);
            C.is("lop", x.lop(0, what), -1);
            C.is("deepest", x.deepest(0, what), -1);
            C.is("shadiest", x.shadiest(0, what), -1);
            C.is("power", x.power(0, 0, what), Long.MIN_VALUE);
        }
        for (int tree : new int[] {-1, 1, 6, LEAST, MOST}) C.is("deepest", x.deepest(tree, 0), -1);
        for (int month : new int[] {-1, 12, LEAST, MOST}) {
            C.is("shadiest", x.shadiest(month, 0), -1);
            C.is("left", x.left(month, 0), -1);
        }
        for (int month : new int[] {-1, 13, LEAST, MOST}) C.is("falls", x.falls(month), -1);
        for (int n : new int[] {-1, 100, LEAST, MOST}) C.is("left", x.left(0, n), -1);
        C.so("as it was", was.equals(Seen.of(x)));
    }

    /** "Which FALL in a MONTH (0 .. 11), never (12): bits." */
    private static void fallsIn0To11And12() {
        ShadeVotes x = new ShadeVotes();
        for (int t = 0; t < 6; t++) x.tree(200, 4);
        C.is("none falls", x.falls(0), 0);
        C.is("none ever falls", x.falls(12), 63);
        x.person(11 * 16 + 8, 63);
        for (int m = 0; m < 12; m++) C.is("all fall", x.falls(m), 63);
        C.is("none never", x.falls(12), 0);
        x.mend(0, 5, 33);
        C.is("the first and the last", x.falls(11), 33);
        C.is("the others never", x.falls(12), 30);
        // Falls in one month alone: it is none of those that never do.
        for (int month = 0; month < 12; month++) {
            ShadeVotes y = oak();
            y.person(11 * 16 + 8, 1);
            for (int m = 0; m < 12; m++) y.mend(m, 3, m == month ? 9 : 0);
            for (int m = 0; m < 12; m++) C.is("in one alone", y.falls(m), m == month ? 1 : 0);
            C.is("not never", y.falls(12), 0);
        }
    }

    /** "the first MONTH, from one on, round the year, in which a TREE FALLS (NOT)". */
    private static void firstGoesRound() {
        for (int month = 0; month < 12; month++) {
            ShadeVotes x = new ShadeVotes();
            x.tree(0, 1);
            x.tree(200, 4);
            x.person(11 * 16 + 8, 3);
            for (int m = 0; m < 12; m++) x.mend(m, 3, m == month ? 9 : 0);
            for (int m = 0; m < 12; m++) {
                C.is("from " + m + " on", x.first(100 + m), month);
                C.is("the one without shade", x.first(m), -2);
            }
            x.mend((month + 6) % 12, 3, 9);
            C.is("the month itself", x.first(100 + month), month);
            C.is("from the next on", x.first(100 + (month + 1) % 12), (month + 6) % 12);
            C.is("from that on", x.first(100 + (month + 7) % 12), month);
        }
        ShadeVotes y = new ShadeVotes();
        for (int t = 0; t < 6; t++) y.tree(200, 4);
        y.person(11 * 16 + 8, 32);
        for (int m = 0; m < 12; m++) {
            C.is("the last tree", y.first(500 + m), m);
            C.is("the one ahead of it", y.first(400 + m), -2);
        }
    }

    /** "LEFT: which TREES (bits) stand behind n (0 .. 99) noons": behind none all that stand now. */
    private static void leftOfNoNoons() {
        ShadeVotes x = new ShadeVotes();
        for (int t = 0; t < 6; t++) x.tree(200, 4);
        x.person(11 * 16 + 8, 42);
        for (int m = 0; m < 12; m++) C.is("behind none", x.left(m, 0), 63);
        for (int m = 0; m < 12; m++) C.is("behind one", x.left(m, 1), 21);
        C.is("behind 99", x.left(0, 99), 21);
        C.is("100", x.left(0, 100), -1);
        C.is("-1", x.left(0, -1), -1);
        x.noon();
        C.is("behind none: the felled ones are gone", x.left(0, 0), 21);
    }

    /** "MONTH by MONTH from a told one on (what FELL is gone)." */
    private static void leftGoesRound() {
        for (int month = 0; month < 12; month++) {
            ShadeVotes x = oak();
            x.person(11 * 16 + 8, 1);
            for (int m = 0; m < 12; m++) x.mend(m, 3, m == month ? 9 : 0);
            for (int from = 0; from < 12; from++) {
                int away = (month - from + 12) % 12;
                C.is("not reached", x.left(from, away), 1);
                C.is("reached", x.left(from, away + 1), 0);
                C.is("gone, round the year too", x.left(from, away + 13), 0);
                C.is("gone for ever", x.left(from, 99), 0);
            }
        }
    }

    /** TURN: "who (bits; of like ones the least)". */
    private static void turnOfLikeOnesTheLeast() {
        ShadeVotes x = oak();
        for (int p = 0; p < 10; p++) x.person(11 * 16 + 8, 1);
        x.mend(0, 6, 3);
        for (int p = 1; p < 10; p++) x.mend(p, 6, 0);
        C.is("only the first counts", x.turn(5, 1), 1);
        x.mend(9, 6, 3);
        x.mend(0, 6, 0);
        C.is("only the last counts", x.turn(5, 1), 512);
        x.mend(8, 6, 3);
        C.is("two must go", x.turn(5, 0), 2);
        C.is("the last two", x.turn(5, 1), 768);
        // Of any one who comes the least: 3 to 7 would do as well.
        ShadeVotes y = oak();
        for (int p = 0; p < 3; p++) y.person(11 * 16 + 8, 0);
        for (int p = 3; p < 8; p++) y.person(0, 1);
        for (int p = 0; p < 8; p++) y.mend(p, 6, p < 3 ? 1 : 2);
        C.is("two come", y.turn(5, 0), 2);
        C.is("0 goes and 1 goes is not enough; 0 goes and 3 comes is not; 3 and 4 come", y.turn(5, 1), 24);
        y.mend(3, 6, 3);
        C.is("0 goes and 3 comes: less than 24", y.turn(5, 1), 9);
        y.mend(0, 6, 0);
        C.is("3 comes", y.turn(5, 1), 8);
        y.mend(4, 6, 3);
        C.is("3 or 4: the least", y.turn(5, 1), 8);
    }

    /** TURN: "NOT." */
    private static void turnNot() {
        ShadeVotes x = oak();
        C.is("nobody: how many", x.turn(5, 0), -2);
        C.is("nobody: who", x.turn(5, 1), -2);
        for (int p = 0; p < 10; p++) x.person(p % 2 == 0 ? 0 : 11 * 16 + 8, 62);
        C.is("none of ten wishes it: how many", x.turn(5, 0), -2);
        C.is("none of ten wishes it: who", x.turn(5, 1), -2);
        x.mend(9, 5, 1);
        C.is("one wishes it: four others go", x.turn(5, 0), 4);
        C.is("those are", x.turn(5, 1), 2 + 8 + 32 + 128);
        x.mend(9, 6, 0);
        C.is("he does not count", x.turn(5, 0), -2);
    }

    /** TURN: "how many at least must change between SHADE and sun": it may be all of them. */
    private static void turnTakesAll() {
        ShadeVotes x = oak();
        for (int p = 0; p < 10; p++) x.person(11 * 16 + 8, 1);
        C.is("all ten go", x.turn(5, 0), 10);
        C.is("all of them", x.turn(5, 1), 1023);
        ShadeVotes y = oak();
        for (int p = 0; p < 9; p++) y.person(11 * 16 + 8, 0);
        y.person(0, 1);
        C.is("nine go and one comes", y.turn(5, 0), 10);
        C.is("all of them", y.turn(5, 1), 1023);
        y.mend(9, 6, 2);
        C.is("one may stay", y.turn(5, 0), 9);
        C.is("the one of the highest number", y.turn(5, 1), 1023 - 256);
    }

    /** CHAIR: "who (bits) of those in its SHADE it hangs on". */
    private static void chairOfThoseInTheShade() {
        ShadeVotes x = oak();
        C.is("nobody there", x.chair(5), 0);
        x.person(0, 1);
        C.is("he is not there", x.chair(5), 0);
        x.sits(0, 11 * 16 + 8);
        C.is("alone", x.chair(5), 1);
        for (int p = 1; p < 10; p++) x.person(11 * 16 + 8, p < 5 ? 1 : 0);
        C.is("five of ten: it stands, and falls if one of the others goes", x.chair(5), 1023 - 31);
        x.mend(5, 5, 1);
        C.is("six of ten: by one less it is five of nine", x.chair(5), 0);
        x.mend(5, 6, 0);
        C.is("five of nine: on each of the five", x.chair(5), 31);
        // By the law it may be on who does not wish it: with ten there nobody counts.
        law(x, "n<10");
        C.is("it stands", x.votes(5, 2), 0);
        C.is("by one less five of nine, or six of nine, wish it", x.chair(5), 1023);
    }

    private static void fraction(ShadeVotes x, int tm, int one, int above, int below) {
        C.is("above the line of " + one, x.power(tm, one, 0), above);
        C.is("below the line of " + one, x.power(tm, one, 1), below);
    }

    /** POWER: "(not in it: 0 by 1)". */
    private static void powerNotInIt() {
        ShadeVotes x = oak();
        x.person(0, 1);
        fraction(x, 5, 0, 0, 1);
        x.person(11 * 16 + 8, 0);
        fraction(x, 5, 0, 0, 1);
        fraction(x, 5, 1, 1, 1);
        x.mend(1, 6, 0);
        fraction(x, 5, 1, 0, 1);
        x.mend(1, 6, 1);
        x.mend(5, 3, 0);
        fraction(x, 5, 1, 0, 1);
    }

    /** POWER: "a fraction in lowest terms". */
    private static void powerInLowestTerms() {
        ShadeVotes x = oak();
        x.person(11 * 16 + 8, 0);
        fraction(x, 5, 0, 1, 1);
        int[][] due = {{1, 2}, {1, 2}, {3, 8}, {3, 8}, {5, 16}, {5, 16}, {35, 128}, {35, 128}, {63, 256}};
        for (int k = 0; k < 9; k++) {
            x.person(11 * 16 + 8, k);
            fraction(x, 5, 0, due[k][0], due[k][1]);
            fraction(x, 5, k + 1, due[k][0], due[k][1]);
        }
        // One as heavy as the nine others together: he decides in all ways but the one.
        law(x, "p=0?9;1");
        fraction(x, 5, 0, 511, 512);
        fraction(x, 5, 9, 1, 512);
        law(x, "p=0");
        fraction(x, 5, 0, 1, 1);
        fraction(x, 5, 9, 0, 1);
        law(x, "0");
        fraction(x, 5, 0, 0, 1);
    }

    /** "Long.MIN_VALUE: BAD." */
    private static void powerRefused() {
        ShadeVotes x = oak();
        C.is("nobody yet", x.power(5, 0, 0), Long.MIN_VALUE);
        x.person(0, 0);
        for (int one : new int[] {-1, 1, 10, LEAST, MOST}) C.is("one " + one, x.power(5, one, 1), Long.MIN_VALUE);
        for (int part : new int[] {-1, 2, LEAST, MOST}) C.is("part " + part, x.power(5, 0, part), Long.MIN_VALUE);
        C.is("nobody, of a tree that is there", x.power(5, 1, 0), Long.MIN_VALUE);
        C.is("he is there", x.power(5, 0, 1), 1);
    }

    /** LOP: "by how much less HIGH (0 on ..) a TREE stands in a MONTH, the least". */
    private static void lopFrom0On() {
        ShadeVotes x = oak();
        C.is("it stands: nobody is there", x.lop(5, 0), 0);
        C.is("it never falls", x.lop(5, 1), -2);
        x.person(11 * 16 + 8, 1);
        C.is("it falls as it is", x.lop(5, 1), 0);
        C.is("HIGH 1 has no shade in month 5", x.lop(5, 0), 3);
        x.person(10 * 16 + 8, 0);
        C.is("half: it stands as it is", x.lop(5, 0), 0);
        C.is("HIGH 5 has as many", x.lop(5, 1), -2);
        x.mend(1, 6, 0);
        x.person(9 * 16 + 8, 0);
        C.is("less is as bad, till there is none", x.lop(5, 0), 3);
        // More HIGH may make it stand, which is no LOP, and less may make it fall, which is no GROW.
        C.is("HIGH 5: half of two", x.votes(5, 2), 1);
        x.mend(0, 1, 5);
        C.is("it stands", x.votes(5, 2), 0);
        C.is("by 0", x.lop(5, 0), 0);
        C.is("not by more", x.lop(5, 1), -2);
    }

    /** LOP: "(.. HIGH 1 at least)", "NOT". */
    private static void lopHigh1AtLeast() {
        ShadeVotes x = oak();
        x.person(11 * 16 + 8, 1);
        for (int high = 1; high <= 9; high++) {
            x.mend(0, 1, high);
            C.is("HIGH 1 has a row in month 0", x.lop(0, 0), -2);
            C.is("HIGH 1 has none in month 6", x.lop(6, 0), high - 1);
            C.is("as it is", x.of(0, 1), high);
        }
        law(x, "h>1");
        for (int high = 1; high <= 9; high++) {
            x.mend(0, 1, high);
            C.is("HIGH 1 is reached, 0 is not", x.lop(0, 0), high - 1);
        }
        law(x, "h");
        C.is("HIGH 1 counts", x.lop(0, 0), -2);
    }

    /** "GROW: likewise by how much more (to 9) it FALLS." */
    private static void growTo9() {
        ShadeVotes x = oak();
        x.person(11 * 16 + 8, 1);
        law(x, "h>8");
        for (int high = 1; high <= 9; high++) {
            x.mend(0, 1, high);
            C.is("to 9", x.lop(0, 1), 9 - high);
        }
        law(x, "h>9");
        for (int high = 1; high <= 9; high++) {
            x.mend(0, 1, high);
            C.is("10 is not reached", x.lop(0, 1), -2);
        }
        law(x, "h>5");
        x.mend(0, 1, 5);
        C.is("by one", x.lop(0, 1), 1);
        x.mend(0, 1, 6);
        C.is("by none", x.lop(0, 1), 0);
        for (int t = 1; t < 6; t++) x.tree(12 * 16 + 8, 2);
        x.mend(0, 5, 63);
        C.is("the last tree in the first month", x.lop(500, 1), 4);
        C.is("stands as it is", x.lop(500, 0), 0);
        C.is("the second in the last month", x.lop(111, 1), 4);
        x.mend(5, 1, 5);
        C.is("the last is higher than the one ahead of it", x.lop(500, 1), 1);
        C.is("that one is not", x.lop(400, 1), 4);
        x.mend(1, 1, 8);
        C.is("the second is less high by 3", x.lop(100, 0), 3);
        C.is("and in the last month", x.lop(111, 0), 3);
    }

    /** BY TURNS: "n times (1 .. 4)", "(nw: 10 n, and 0 whether, 1 the best move)". */
    private static void byTurnsOneToFour() {
        ShadeVotes x = oak();
        x.person(11 * 16 + 8, 1);
        int[] wrong = {0, 1, 2, 9, -1, -9, -10, -11, -40, 12, 19, 22, 39, 42, 49, 50, 51, 100, 110, LEAST, MOST};
        for (int nw : wrong) C.is("nw " + nw, x.byTurns(5, nw), -1);
        int[] whether = {1, 0, 1, 0};
        int[] move = {10, 0, 0, 0};
        for (int n = 1; n <= 4; n++) {
            C.is("whether by " + n, x.byTurns(5, 10 * n), whether[n - 1]);
            C.is("the move of " + n, x.byTurns(5, 10 * n + 1), move[n - 1]);
        }
    }

    /** "(the least; 10: nobody ..)". */
    private static void byTurnsNobody() {
        ShadeVotes x = oak();
        for (int n = 1; n <= 4; n++) {
            C.is("no people: it stands", x.byTurns(5, 10 * n), 0);
            C.is("no people: nobody", x.byTurns(5, 10 * n + 1), 10);
        }
        for (int p = 0; p < 10; p++) x.person(p == 0 ? 11 * 16 + 8 : 0, p == 0 ? 1 : 0);
        C.is("it falls if nobody moves", x.byTurns(5, 10), 1);
        C.is("any other move hurts", x.byTurns(5, 11), 10);
        x.mend(9, 6, 0);
        C.is("9 does not count: he is the least that does not hurt", x.byTurns(5, 11), 9);
        x.mend(0, 5, 0);
        C.is("nobody wishes it: all are alike", x.byTurns(5, 11), 0);
    }

    /** "(the least ..; of like ones the least)". */
    private static void byTurnsOfLikeOnes() {
        ShadeVotes x = oak();
        for (int p = 0; p < 10; p++) x.person(0, p < 4 ? 0 : 1);
        C.is("4 to 9 would do: the least", x.byTurns(5, 11), 4);
        x.mend(4, 6, 0);
        C.is("5 to 9 would do", x.byTurns(5, 11), 5);
        for (int p = 4; p < 9; p++) x.mend(p, 6, 0);
        C.is("9 alone", x.byTurns(5, 11), 9);
        x.mend(9, 6, 0);
        C.is("none would do: all are alike", x.byTurns(5, 11), 0);
        C.is("it stands", x.byTurns(5, 10), 0);
        x.mend(9, 6, 3);
        C.is("by two the other sends 9 out again: all are alike", x.byTurns(5, 21), 0);
        C.is("it stands", x.byTurns(5, 20), 0);
        C.is("by three 9 comes last, whatever the first move", x.byTurns(5, 31), 0);
        C.is("it falls", x.byTurns(5, 30), 1);
    }

    /** "first who wants it to FALL: each moves one ..: whether it FALLS (1, 0), if both do their best". */
    private static void byTurnsDoTheirBest() {
        ShadeVotes x = oak();
        for (int p = 0; p < 4; p++) x.person(p < 3 ? 11 * 16 + 8 : 0, p < 3 ? 1 : 0);
        int[] whether = {1, 1, 1, 1};
        for (int n = 1; n <= 4; n++) C.is("three wish it", x.byTurns(5, 10 * n), whether[n - 1]);
        x.mend(3, 6, 2);
        C.is("3 comes: 3 to 2", x.byTurns(5, 20), 1);
        x.mend(3, 6, 3);
        C.is("3 comes: 3 to 3", x.byTurns(5, 20), 0);
        C.is("and is sent out again", x.byTurns(5, 30), 1);
        C.is("and comes again", x.byTurns(5, 40), 0);
        x.person(0, 1);
        C.is("4 comes ahead of him: 4 to 3", x.byTurns(5, 20), 1);
        C.is("that is the move", x.byTurns(5, 21), 4);
        C.is("by four: 3 comes, one comes or he goes, and again", x.byTurns(5, 40), 1);
    }

    /** "DEEPEST: the MONTH of most in a TREE's SHADE (of like ones the first); that." */
    private static void deepestOfLikeOnes() {
        ShadeVotes x = oak();
        C.is("nobody ever: the first month", x.deepest(0, 0), 0);
        C.is("none", x.deepest(0, 1), 0);
        for (int p = 0; p < 10; p++) x.person(11 * 16 + 8, 0);
        C.is("all always: the first month", x.deepest(0, 0), 0);
        C.is("ten", x.deepest(0, 1), 10);
        for (int month = 0; month < 12; month++) {
            for (int m = 0; m < 12; m++) x.mend(m, 3, m == month ? 9 : 0);
            C.is("in one month alone", x.deepest(0, 0), month);
            C.is("ten", x.deepest(0, 1), 10);
            x.mend(11, 3, 9);
            C.is("the first of two", x.deepest(0, 0), month);
            ShadeVotes y = oak();
            y.person(11 * 16 + 8, 0);
            for (int m = 0; m < 12; m++) y.mend(m, 3, m == month ? 9 : 0);
            C.is("one in one month alone", y.deepest(0, 0), month);
            C.is("one", y.deepest(0, 1), 1);
        }
    }

    /** "SHADIEST: who sits in most SHADES in a MONTH (of like ones the least ..); in how many." */
    private static void shadiestOfLikeOnes() {
        ShadeVotes x = new ShadeVotes();
        for (int t = 0; t < 6; t++) x.tree(200, 4);
        for (int p = 0; p < 9; p++) x.person(0, 0);
        x.person(11 * 16 + 8, 0);
        C.is("the last alone", x.shadiest(5, 0), 9);
        C.is("in all six", x.shadiest(5, 1), 6);
        x.mend(4, 4, 11 * 16 + 7);
        C.is("4 in as many: the least", x.shadiest(5, 0), 4);
        x.mend(5, 2, 0);
        C.is("4 in five", x.shadiest(5, 0), 9);
        C.is("9 in six", x.shadiest(5, 1), 6);
        x.mend(0, 4, 11 * 16 + 8);
        C.is("the first", x.shadiest(11, 0), 0);
        C.is("in six", x.shadiest(11, 1), 6);
    }

    /** "(.. NOT: nobody is in any)". */
    private static void shadiestNot() {
        ShadeVotes x = new ShadeVotes();
        for (int m = 0; m < 12; m++) {
            C.is("no trees, nobody: who", x.shadiest(m, 0), -2);
            C.is("no trees, nobody: in none", x.shadiest(m, 1), 0);
        }
        x.tree(200, 4);
        C.is("nobody: who", x.shadiest(0, 0), -2);
        C.is("nobody: in none", x.shadiest(0, 1), 0);
        x.person(200, 1);
        C.is("in the tree's own cell: who", x.shadiest(0, 0), -2);
        C.is("in none", x.shadiest(0, 1), 0);
        x.person(11 * 16 + 8, 0);
        C.is("one in one: who", x.shadiest(0, 0), 1);
        C.is("in one", x.shadiest(0, 1), 1);
        // Who has not come yet does not sit in cell 0.
        ShadeVotes y = new ShadeVotes();
        y.tree(16, 9);
        C.is("nobody yet: who", y.shadiest(0, 0), -2);
        C.is("nobody yet", y.shade(0), 0);
        y.person(255, 63);
        C.is("one, who is in none: who", y.shadiest(0, 0), -2);
        C.is("one, who is in none", y.shade(0), 0);
    }

    /** "IN THOUGHT": none of these calls changes anything. */
    private static void thoughtChangesNothing() {
        ShadeVotes x = new ShadeVotes();
        x.tree(200, 4);
        x.tree(12 * 16 + 9, 4);
        for (int p = 0; p < 5; p++) x.person(11 * 16 + 7 + p % 3, p);
        x.mend(0, 6, 3);
        String was = Seen.of(x);
        for (int tm : new int[] {0, 5, 11, 100, 111}) {
            x.shade(tm);
            for (int what = 0; what <= 3; what++) x.votes(tm, what);
            x.first(tm);
            x.turn(tm, 0);
            x.turn(tm, 1);
            x.chair(tm);
            x.power(tm, 4, 1);
            x.lop(tm, 0);
            x.lop(tm, 1);
            for (int n = 10; n <= 40; n += 10) x.byTurns(tm, n + 1);
        }
        for (int m = 0; m <= 12; m++) x.falls(m);
        x.left(3, 99);
        x.deepest(1, 1);
        x.shadiest(4, 1);
        C.so("as it was", was.equals(Seen.of(x)));
        for (int m = 0; m < 12; m++) C.is("the sun as low", x.of(m, 3), LOW[m]);
        int falls = x.falls(0);
        C.is("felled in deed: those that fall in thought", x.noon(), falls);
    }

    /** "IN THOUGHT": what one call worked out does not show in the next, whatever was asked between. */
    private static void thoughtIsAsItWasAsked() {
        for (int n = 10; n <= 40; n += 10) {
            ShadeVotes x = oak();
            x.person(11 * 16 + 8, 1);
            x.row(0, 0, 2);
            x.put(0, 0, 5);
            x.put(0, 1, 1);
            x.byTurns(5, n);
            fraction(x, 5, 0, 1, 1);
            x.byTurns(5, n);
            C.is("by one set", x.wishes(0, 0, 0), 1);
            x.byTurns(5, n);
            C.is("he is certain", x.wishes(0, 0, 2), 1);
        }
        ShadeVotes y = oak();
        for (int p = 0; p < 6; p++) y.person(p % 2 == 0 ? 11 * 16 + 8 : 0, p == 3 ? 0 : 1);
        law(y, "n%3*p+1");
        String asked = asked(y, 0);
        for (int from = 1; from < 7; from++) C.so("as it was, from " + from, asked.equals(asked(y, from)));
    }

    /** Seven answers, asked from one of them on and round, told in their own order. */
    private static String asked(ShadeVotes x, int from) {
        long[] answers = new long[7];
        for (int k = 0; k < 7; k++) {
            int call = (from + 5 * k) % 7;
            switch (call) {
                case 0: answers[call] = x.turn(5, 1); break;
                case 1: answers[call] = x.chair(5); break;
                case 2: answers[call] = x.power(5, 2, 0); break;
                case 3: answers[call] = x.byTurns(5, 31); break;
                case 4: answers[call] = x.save(3, 0); break;
                case 5: answers[call] = x.votes(5, 1); break;
                default: answers[call] = x.byTurns(5, 40); break;
            }
        }
        return java.util.Arrays.toString(answers);
    }
}
