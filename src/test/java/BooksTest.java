/** Promises 21 to 25: books, seats, shades of cells alone, years of clouds. */
public final class BooksTest {
    private static final Check C = new Check("BooksTest");

    public static void main(String[] args) {
        promise21Judge();
        promise21Refusals();
        promise22Wishes();
        promise22NoWishes();
        promise23Save();
        promise23SaveByLaw();
        promise23And24LaterTrees();
        promise24Alike();
        promise25Drawn();
        promise25Clouds();
        felledTrees();
        C.end();
    }

    /** A tree whose rows of shade by month are 12 10 8 5 4 2 2 4 5 8 10 12; it falls in months 5 and 6 alone. */
    private static ShadeVotes oak() {
        ShadeVotes x = new ShadeVotes();
        C.is("oak", x.tree(200, 4), 0);
        C.is("0, always there", x.person(11 * 16 + 8, 1), 0);
        C.is("1, from 3 rows on", x.person(9 * 16 + 7, 0), 1);
        C.is("2, from 5 rows on", x.person(7 * 16 + 9, 0), 2);
        return x;
    }

    private static void book(ShadeVotes x, int shelf, int... values) {
        C.is("row", x.row(shelf, 0, values.length), 1);
        for (int i = 0; i < values.length; i++) C.is("put", x.put(shelf, i, values[i]), 1);
    }

    private static void law(ShadeVotes x, String text) {
        for (int i = 0; i < text.length(); i++) x.feed(text.charAt(i));
        C.is("law " + text, x.law(), 1);
    }

    private static int judged(ShadeVotes x, int... values) {
        book(x, 5, values);
        return x.judge(5, 0);
    }

    private static void promise21Judge() {
        ShadeVotes x = oak();
        C.is("nothing told", judged(x), -2);
        C.is("all so", judged(x, 5, 1, 6, 1, 0, 0, 5, 1), -2);
        C.is("the first is not", judged(x, 5, 0, 0, 1), 0);
        C.is("the third is not", judged(x, 5, 1, 0, 0, 7, 1, 0, 1), 2);
        C.is("lacking", judged(x, 5, 1, 6), 1);
        C.is("lacking, though 0 would be so", judged(x, 5, 1, 0), 1);
        C.is("lacking at once", judged(x, 5), 0);
        C.is("no month 12", judged(x, 5, 1, 12, 0), 1);
        C.is("no month -1", judged(x, -1, 0), 0);
        C.is("neither fell nor stood", judged(x, 5, 2), 0);
        C.is("neither fell nor stood", judged(x, 0, -1), 0);
        C.is("the last months", judged(x, 11, 0, 10, 0), -2);
        C.is("thirty twos", judged(x, new int[60]), -2);
    }

    private static void promise21Refusals() {
        ShadeVotes x = oak();
        C.is("shelf below", x.judge(-1, 0), -1);
        C.is("shelf above", x.judge(6, 0), -1);
        C.is("no such tree", x.judge(0, 1), -1);
        C.is("tree below", x.judge(0, -1), -1);
        C.is("nothing there", x.judge(0, 0), -11);
        C.is("nothing there", x.wishes(0, 0, 0), -11);
        for (int sort = 1; sort <= 4; sort++) {
            x.row(0, sort, 0);
            C.is("no bytes", x.judge(0, 0), -12);
            C.is("no bytes", x.wishes(0, 0, 0), -12);
        }
        x.body(0);
        x.keep(0, 0);
        C.is("a voter", x.judge(0, 0), -12);
        C.is("a voter", x.wishes(0, 0, 0), -12);
        C.is("BAD ahead of that", x.judge(0, 1), -1);
        C.is("shelf below", x.wishes(-1, 0, 0), -1);
        C.is("shelf above", x.wishes(6, 0, 0), -1);
        C.is("no such tree", x.wishes(0, 1, 0), -1);
        C.is("tree below", x.wishes(0, -1, 0), -1);
        C.is("what below", x.wishes(0, 0, -1), -1);
        C.is("what above", x.wishes(0, 0, 3), -1);
    }

    private static void wishes(ShadeVotes x, int many, int least, int certain, int... values) {
        book(x, 1, values);
        C.is("how many sets", x.wishes(1, 0, 0), many);
        C.is("the least", x.wishes(1, 0, 1), least);
        C.is("certain", x.wishes(1, 0, 2), certain);
    }

    private static void promise22Wishes() {
        ShadeVotes x = oak();
        wishes(x, 8, 0, 0);
        wishes(x, 4, 1, 1, 5, 1);
        wishes(x, 4, 0, 0, 5, 0);
        wishes(x, 2, 3, 3, 4, 1);
        wishes(x, 6, 0, 0, 4, 0);
        wishes(x, 4, 3, 0, 0, 1);
        wishes(x, 1, 6, 6, 0, 1, 5, 0);
        wishes(x, 1, 1, 1, 5, 1, 0, 0, 4, 0);
        wishes(x, 2, 1, 1, 5, 1, 4, 0, 5, 1);
        wishes(x, 2, 3, 3, 4, 1, 5, 1);
        wishes(x, 4, 1, 1, 5, 1, 6, 1, 5, 1);
        wishes(x, 2, 1, 1, 6, 1, 4, 0, 7, 0);
        C.is("nobody's wish changed", x.of(0, 5), 1);
        x.mend(2, 6, 3);
        wishes(x, 4, 4, 4, 0, 1);
        law(x, "n=3?p=1;w");
        wishes(x, 4, 2, 2, 0, 1);
        x.person(255, 1);
        wishes(x, 8, 2, 2, 0, 1);
    }

    private static void promise22NoWishes() {
        ShadeVotes x = oak();
        wishes(x, 0, -2, 0, 5, 1, 5, 0);
        wishes(x, 0, -2, 0, 5, 1, 6, 0);
        wishes(x, 0, -2, 0, 5);
        wishes(x, 0, -2, 0, 5, 1, 0);
        wishes(x, 0, -2, 0, 5, 1, 12, 0);
        wishes(x, 0, -2, 0, -1, 0);
        wishes(x, 0, -2, 0, 0, 2);
        x.mend(5, 3, 0);
        wishes(x, 0, -2, 0, 5, 1);
        wishes(x, 8, 0, 0, 5, 0);
        ShadeVotes y = new ShadeVotes();
        y.tree(200, 4);
        wishes(y, 1, 0, 0);
        wishes(y, 0, -2, 0, 0, 1);
        for (int k = 0; k < 10; k++) y.person(184, 0);
        wishes(y, 386, 63, 0, 0, 1);
    }

    private static void promise23Save() {
        ShadeVotes x = oak();
        C.is("0 in the sun: nobody in 5 and 6 wishes it", x.save(0, 0), 0);
        C.is("stands always", x.save(0, 1), 12);
        // 1 must be there in 5 and 6: rows 10 and 11, columns 7 to 9.
        C.is("1 as near as 0", x.save(1, 0), 10 * 16 + 7);
        C.is("stands always", x.save(1, 1), 12);
        x.mend(1, 5, 1);
        x.mend(0, 6, 2);
        // 1 wishes it too now: 0 and 1 against 2.
        C.is("1 in the sun", x.save(1, 0), 0);
        C.is("0 fells it in 5, 6, 4 and 7, and with 2 it stands not", x.save(1, 1), 0);
        // 2, who is against it, is as heavy as nobody: 2 against 1 everywhere.
        x.mend(2, 6, 2);
        C.is("2 where there are 2 rows", x.save(2, 0), 10 * 16 + 7);
        C.is("only where 1 isn't: in 5 and 6", x.save(2, 1), 2);
        C.is("2 sits where it sat", x.of(2, 4), 7 * 16 + 9);
        C.is("no such tree", x.save(100, 0), -1);
        C.is("nobody", x.save(3, 0), -1);
        C.is("nobody", x.save(10, 0), -1);
        C.is("below", x.save(-1, 0), -1);
        C.is("what below", x.save(0, -1), -1);
        C.is("what above", x.save(0, 2), -1);
    }

    private static void promise23And24LaterTrees() {
        ShadeVotes x = new ShadeVotes();
        for (int k = 0; k < 5; k++) x.tree(0, 1);
        x.tree(200, 4);
        for (int k = 0; k < 9; k++) x.person(255, 0);
        x.person(184, 32);
        C.is("in the sun", x.save(509, 0), 0);
        C.is("always", x.save(509, 1), 12);
        C.is("one of the others", x.save(508, 0), 10 * 16 + 7);
        C.is("one who is as heavy", x.save(508, 1), 12);
        C.is("another tree", x.save(409, 0), 0);
        C.is("no tree 6", x.save(600, 0), -1);
        C.is("no one 10", x.save(510, 0), -1);
        C.is("bare ones", x.alike(34, 0), 1);
        C.is("the last and a bare one", x.alike(54, 0), 0);
        C.is("a bare one and the last", x.alike(45, 0), 0);
        C.is("the last and itself", x.alike(55, 0), 1);
        C.is("no tree 6", x.alike(56, 0), -1);
    }

    private static void promise23SaveByLaw() {
        ShadeVotes x = new ShadeVotes();
        x.tree(15 * 16 + 8, 3);
        x.tree(200, 4);
        x.person(14 * 16 + 8, 3);
        x.person(0, 0);
        law(x, "n>1?p;1");
        // With 1 there, 1 alone counts: in every month as LOW is 2 at least.
        C.is("tree 0", x.save(1, 0), 13 * 16 + 7);
        C.is("always", x.save(1, 1), 12);
        C.is("tree 1: nobody is there", x.save(101, 0), 0);
        C.is("always", x.save(101, 1), 12);
        C.is("tree 1: 0 in the sun", x.save(100, 0), 0);
    }

    private static void promise24Alike() {
        ShadeVotes x = new ShadeVotes();
        x.tree(12 * 16 + 0, 4);
        x.tree(12 * 16 + 1, 4);
        x.tree(12 * 16 + 1, 3);
        C.is("itself", x.alike(0, 0), 1);
        C.is("two columns, three columns", x.alike(1, 0), 0);
        x.mend(0, 2, 2);
        C.is("cut by the land's edge", x.alike(1, 0), 1);
        C.is("and the other way round", x.alike(10, 0), 1);
        C.is("of another height", x.alike(12, 0), 0);
        C.is("of another height, but as many rows", x.alike(12, 5), 1);
        x.person(11 * 16, 1);
        C.is("of cells alone", x.alike(1, 0), 1);
        x.tree(0, 9);
        x.tree(15, 1);
        C.is("both have none", x.alike(34, 0), 1);
        C.is("one has none", x.alike(30, 0), 0);
        x.mend(5, 3, 0);
        C.is("both have none", x.alike(30, 5), 1);
        x.tree(11 * 16, 4);
        C.is("a row higher", x.alike(50, 1), 0);
        C.is("no such tree", x.alike(6, 0), -1);
        C.is("no such tree", x.alike(60, 0), -1);
        C.is("far above", x.alike(Integer.MAX_VALUE, 0), -1);
        C.is("below", x.alike(-1, 0), -1);
        C.is("month below", x.alike(0, -1), -1);
        C.is("month above", x.alike(0, 12), -1);
    }

    private static void promise25Drawn() {
        ShadeVotes x = oak();
        x.tree(0, 1);
        C.is("never cloudy", x.drawn(7, 500, 0), 5);
        C.is("always cloudy", x.drawn(7, 512, 0), 0);
        C.is("the one without shade", x.drawn(7, 500, 1), 0);
        C.is("one stands at each end", x.drawn(7, 500, -1), 5);
        C.is("always cloudy: both", x.drawn(7, 3012, -1), 60);
        C.is("in thought only", x.led(0), 0);
        C.is("years below", x.drawn(7, 0, 0), -1);
        C.is("years below", x.drawn(7, 12, 0), -1);
        C.is("years above", x.drawn(7, 3100, 0), -1);
        C.is("the most years", x.drawn(7, 3000, 0), 30);
        C.is("clouds above", x.drawn(7, 113, 0), -1);
        C.is("below", x.drawn(7, -1, 0), -1);
        C.is("below", x.drawn(7, -100, -1), -1);
        C.is("no such tree", x.drawn(7, 100, 2), -1);
        C.is("tree below", x.drawn(7, 100, -2), -1);
    }

    /** Counts the years in which month 5 or month 6 is not cloudy. */
    private static int clearYears(int seed, int years, int clouds) {
        long z = seed;
        int clear = 0;
        for (int year = 0; year < years; year++) {
            boolean falls = false;
            for (int month = 0; month < 12; month++) {
                z = (z * 1103515245L + 12345L) & 0xffffffffL;
                boolean cloudy = z / 256 % 12 < clouds;
                if (!cloudy && (month == 5 || month == 6)) falls = true;
            }
            if (falls) clear++;
        }
        return clear;
    }

    private static void promise25Clouds() {
        ShadeVotes x = oak();
        for (int seed : new int[] {0, 1, -1, 5, 123456789, Integer.MIN_VALUE, Integer.MAX_VALUE}) {
            for (int clouds = 0; clouds <= 12; clouds++) {
                int clear = clearYears(seed, 30, clouds);
                C.is("drawn by " + seed, x.drawn(seed, 3000 + clouds, 0), clear);
                C.is("stands by " + seed, x.drawn(seed, 3000 + clouds, -1), 30 - clear);
                C.is("one year by " + seed, x.drawn(seed, 100 + clouds, 0), clearYears(seed, 1, clouds));
            }
        }
    }

    private static void felledTrees() {
        ShadeVotes x = oak();
        x.tree(200, 4);
        for (int k = 0; k < 6; k++) x.noon();
        C.is("felled", x.of(0, 7), 0);
        C.is("a book on it: as if it stood", judged(x, 5, 1, 0, 0), -2);
        C.is("and what is not so", judged(x, 0, 0, 5, 0), 1);
        wishes(x, 4, 1, 1, 5, 1);
        C.is("it does not fall in any month", x.save(0, 1), 12);
        C.is("wherever one sits", x.save(0, 0), 0);
        C.is("it has no shade", x.alike(1, 5), 0);
        C.is("as one has by whom none falls", x.mend(5, 3, 0), 2);
        C.is("both none", x.alike(1, 5), 1);
        C.is("is not drawn", x.drawn(7, 500, 0), 0);
        C.is("does not stand again", x.drawn(7, 500, -1), 5);
    }
}
