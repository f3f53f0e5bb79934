/** Promises 9 to 20: noons in thought. */
public final class ThoughtTest {
    private static final Check C = new Check("ThoughtTest");

    public static void main(String[] args) {
        promise9Shade();
        promise9ShadeEdges();
        promise10Votes();
        promise10Cells();
        promise11Falls();
        promise12First();
        promise13Left();
        promise14Turn();
        promise14TurnByLaw();
        promise14TurnByAll();
        promise15Chair();
        promise16Power();
        promise17Lop();
        promise18ByTurns();
        promise18FourMoves();
        promise19Deepest();
        promise20Shadiest();
        laterTrees();
        felledTrees();
        wrongTreeMonths();
        C.end();
    }

    /**
     * A tree in row 12, column 8, HIGH 4, BROAD 1; its rows of shade by month: 12 10 8 5 4 2 2 4 5 8 10 12.
     * 0 (wishes it felled) always sits there; 1 from 3 rows on; 2 from 5 rows on; 3 in the tree's own cell,
     * 4 too far aside; 5 (wishes it felled) from 12 rows on.
     */
    private static ShadeVotes oak() {
        ShadeVotes x = new ShadeVotes();
        C.is("oak", x.tree(200, 4), 0);
        C.is("0", x.person(11 * 16 + 8, 1), 0);
        C.is("1", x.person(9 * 16 + 7, 62), 1);
        C.is("2", x.person(7 * 16 + 9, 0), 2);
        C.is("3", x.person(200, 1), 3);
        C.is("4", x.person(11 * 16 + 10, 1), 4);
        C.is("5", x.person(8, 1), 5);
        return x;
    }

    private static void law(ShadeVotes x, String text) {
        for (int i = 0; i < text.length(); i++) x.feed(text.charAt(i));
        C.is("law " + text, x.law(), 1);
    }

    private static void promise9Shade() {
        ShadeVotes x = oak();
        int[] due = {39, 7, 7, 7, 3, 1, 1, 3, 7, 7, 7, 39};
        for (int m = 0; m < 12; m++) C.is("shade in " + m, x.shade(m), due[m]);
        x.mend(0, 2, 2);
        C.is("broader", x.shade(5), 17);
        x.mend(0, 2, 0);
        C.is("one column", x.shade(0), 33);
        x.mend(0, 2, 1);
        x.mend(6, 3, 9);
        C.is("as low as in winter", x.shade(6), 39);
        x.mend(6, 3, 0);
        C.is("the sun overhead", x.shade(6), 0);
        x.mend(0, 1, 1);
        C.is("9 by 3 rows", x.shade(0), 3);
        C.is("2 by 3 rows: none", x.shade(5), 0);
    }

    private static void promise9ShadeEdges() {
        ShadeVotes x = new ShadeVotes();
        x.tree(5 * 16, 9);
        x.tree(5 * 16 + 15, 9);
        x.person(4 * 16 + 1, 0);
        x.person(4 * 16 + 14, 0);
        x.person(4 * 16 + 15, 0);
        x.person(3 * 16 + 15, 0);
        x.person(5 * 16 + 1, 0);
        x.person(6 * 16, 0);
        C.is("no shade round the land's edge", x.shade(0), 1);
        C.is("nor on the other side", x.shade(100), 14);
        C.is("in each month its own", x.shade(105), 14);
        x.tree(8, 9);
        x.person(8, 0);
        C.is("a tree in the topmost row", x.shade(200), 0);
    }

    private static void promise10Votes() {
        ShadeVotes x = oak();
        C.is("yes", x.votes(0, 0), 2);
        C.is("all", x.votes(0, 1), 4);
        C.is("half is not enough", x.votes(0, 2), 0);
        C.is("yes", x.votes(5, 0), 1);
        C.is("all", x.votes(5, 1), 1);
        C.is("it falls", x.votes(5, 2), 1);
        x.mend(0, 6, 3);
        C.is("yes weighs", x.votes(0, 0), 4);
        C.is("all weighs", x.votes(0, 1), 6);
        C.is("more than half", x.votes(0, 2), 1);
        x.mend(0, 6, 0);
        C.is("weighs nothing", x.votes(5, 1), 0);
        C.is("nobody counts", x.votes(5, 2), 0);
        law(x, "n");
        C.is("each counts how many sit there", x.votes(0, 1), 16);
        C.is("those who wish it", x.votes(0, 0), 8);
        law(x, "p*3-1");
        C.is("held within 0 and 9", x.votes(0, 1), 0 + 2 + 5 + 9);
        law(x, "m=5?7;h+t");
        C.is("by month", x.votes(5, 1), 7);
        C.is("by height and tree", x.votes(6, 1), 4);
        C.is("what below", x.votes(0, -1), -1);
        C.is("what above", x.votes(0, 4), -1);
    }

    private static void promise10Cells() {
        ShadeVotes x = oak();
        int[] rows = {12, 10, 8, 5, 4, 2, 2, 4, 5, 8, 10, 12};
        for (int m = 0; m < 12; m++) C.is("cells", x.votes(m, 3), 3 * rows[m]);
        x.mend(0, 1, 9);
        C.is("no farther than the land", x.votes(0, 3), 36);
        x.mend(0, 0, 15 * 16 + 15);
        C.is("the last column", x.votes(0, 3), 30);
        x.mend(0, 2, 3);
        C.is("broad in the last column", x.votes(0, 3), 60);
        x.mend(0, 0, 15 * 16 + 1);
        C.is("broad in the second column", x.votes(0, 3), 75);
        x.mend(0, 0, 3);
        C.is("the topmost row", x.votes(0, 3), 0);
        x.mend(0, 0, 16 + 3);
        C.is("the row below it", x.votes(5, 3), 7);
        x.mend(5, 3, 0);
        C.is("the sun overhead", x.votes(5, 3), 0);
    }

    private static void promise11Falls() {
        ShadeVotes x = oak();
        for (int m = 0; m < 12; m++) C.is("falls in " + m, x.falls(m), m == 5 || m == 6 ? 1 : 0);
        C.is("never: none", x.falls(12), 0);
        x.tree(200, 4);
        C.is("by others' wishes", x.falls(5), 1);
        C.is("never", x.falls(12), 2);
        C.is("who wishes 1 sits there from 3 rows on", x.falls(4), 0);
        x.mend(1, 6, 2);
        C.is("weighs more", x.falls(4), 2);
        x.mend(1, 6, 1);
        C.is("never now", x.falls(12), 2);
        x.mend(2, 5, 2);
        C.is("two of three", x.falls(3), 2);
        C.is("never: none", x.falls(12), 0);
        C.is("below", x.falls(-1), -1);
        C.is("above", x.falls(13), -1);
    }

    private static void promise12First() {
        ShadeVotes x = oak();
        int[] due = {5, 5, 5, 5, 5, 5, 6, 5, 5, 5, 5, 5};
        for (int m = 0; m < 12; m++) C.is("first from " + m, x.first(m), due[m]);
        x.mend(0, 5, 0);
        C.is("never", x.first(0), -2);
        x.mend(5, 6, 3);
        C.is("half is not enough", x.first(0), -2);
        x.mend(2, 6, 0);
        C.is("round the year", x.first(1), 11);
        C.is("from the last on", x.first(11), 11);
        C.is("from the first on", x.first(0), 0);
    }

    private static void promise13Left() {
        ShadeVotes x = oak();
        x.tree(0, 1);
        C.is("no noons", x.left(5, 0), 3);
        C.is("one noon", x.left(5, 1), 2);
        C.is("five from month 0", x.left(0, 5), 3);
        C.is("six from month 0", x.left(0, 6), 2);
        C.is("from month 7, round", x.left(7, 10), 3);
        C.is("one more", x.left(7, 11), 2);
        C.is("many", x.left(7, 99), 2);
        C.is("in thought only", x.of(0, 7), 1);
        C.is("nothing led", x.led(0), 0);
        C.is("month below", x.left(-1, 1), -1);
        C.is("month above", x.left(12, 1), -1);
        C.is("n below", x.left(0, -1), -1);
        C.is("n above", x.left(0, 100), -1);
    }

    private static void promise14Turn() {
        ShadeVotes x = oak();
        C.is("one goes", x.turn(0, 0), 1);
        C.is("the least: 1 goes out", x.turn(0, 1), 2);
        C.is("who falls it goes", x.turn(5, 0), 1);
        C.is("0 goes, or 1 comes: the least", x.turn(5, 1), 1);
        x.mend(0, 6, 2);
        C.is("0 goes alone", x.turn(5, 1), 1);
        x.mend(1, 6, 2);
        x.mend(0, 5, 0);
        x.mend(3, 6, 0);
        x.mend(4, 6, 2);
        C.is("4 comes: as many for it as against", x.votes(5, 2), 0);
        C.is("two change", x.turn(5, 0), 2);
        C.is("0 goes and 4 comes", x.turn(5, 1), 17);
        x.mend(4, 5, 0);
        C.is("0 goes and 5 comes", x.turn(5, 1), 33);
        x.mend(5, 5, 0);
        C.is("nobody counts who wishes it", x.turn(5, 0), -2);
        C.is("nobody", x.turn(5, 1), -2);
        C.is("what below", x.turn(5, -1), -1);
        C.is("what above", x.turn(5, 2), -1);
    }

    private static void promise14TurnByLaw() {
        ShadeVotes x = oak();
        // With two and more in the shade only 2 counts.
        law(x, "n<2?w;p=2?1;0");
        C.is("falls by 0 alone", x.votes(5, 2), 1);
        C.is("0 goes", x.turn(5, 1), 1);
        x.mend(2, 5, 1);
        C.is("falls by 2", x.votes(3, 2), 1);
        C.is("2 goes", x.turn(3, 1), 4);
        x.mend(0, 5, 0);
        C.is("nobody's yes", x.votes(4, 2), 0);
        C.is("2 comes and alone counts", x.turn(4, 1), 4);
    }

    private static void promise14TurnByAll() {
        ShadeVotes x = new ShadeVotes();
        x.tree(200, 4);
        x.person(184, 0);
        x.person(0, 1);
        C.is("both change", x.turn(0, 0), 2);
        C.is("0 goes and 1 comes", x.turn(0, 1), 3);
        x.mend(0, 5, 1);
        x.mend(1, 4, 184);
        C.is("both go", x.turn(0, 1), 3);
    }

    private static void promise15Chair() {
        ShadeVotes x = oak();
        C.is("1 or 2 away: it falls", x.chair(0), 6);
        C.is("0 away: it stands", x.chair(5), 1);
        C.is("1 away: it falls", x.chair(4), 2);
        C.is("not by one", x.chair(3), 0);
        x.mend(5, 3, 0);
        C.is("nobody sits there", x.chair(5), 0);
        law(x, "n=4?9-p;w");
        // 9 and 4 of 9, 8, 7, 4 wish it: one less, and all count the same.
        C.is("it stands by the law", x.votes(0, 2), 0);
        C.is("by one less each counts 1", x.chair(0), 6);
    }

    private static void fraction(ShadeVotes x, int tm, int one, int above, int below) {
        C.is("above of " + one + " in " + tm, x.power(tm, one, 0), above);
        C.is("below of " + one + " in " + tm, x.power(tm, one, 1), below);
    }

    private static void promise16Power() {
        ShadeVotes x = oak();
        fraction(x, 0, 0, 3, 8);
        fraction(x, 0, 1, 3, 8);
        fraction(x, 0, 3, 0, 1);
        fraction(x, 1, 2, 1, 2);
        fraction(x, 1, 5, 0, 1);
        fraction(x, 4, 1, 1, 2);
        fraction(x, 5, 0, 1, 1);
        x.mend(0, 6, 3);
        fraction(x, 1, 0, 1, 1);
        fraction(x, 1, 1, 0, 1);
        fraction(x, 0, 0, 7, 8);
        fraction(x, 0, 1, 1, 8);
        x.mend(0, 6, 0);
        fraction(x, 5, 0, 0, 1);
        fraction(x, 4, 0, 0, 1);
        fraction(x, 4, 1, 1, 1);
        law(x, "n=4?p;w");
        // 0 counts 0, 1 1, 2 2, 5 5.
        fraction(x, 0, 5, 1, 1);
        fraction(x, 0, 2, 0, 1);
        long bad = Long.MIN_VALUE;
        C.is("nobody", x.power(0, 6, 0), bad);
        C.is("below", x.power(0, -1, 0), bad);
        C.is("part below", x.power(0, 0, -1), bad);
        C.is("part above", x.power(0, 0, 2), bad);
        C.is("no such month", x.power(12, 0, 0), bad);
        C.is("no such tree", x.power(100, 0, 0), bad);
        C.is("below 0", x.power(-1, 0, 0), bad);
    }

    private static void promise17Lop() {
        ShadeVotes x = oak();
        C.is("HIGH 1 has no shade then", x.lop(5, 0), 3);
        C.is("it stands as it is", x.lop(0, 0), 0);
        C.is("it falls as it is", x.lop(5, 1), 0);
        C.is("however high", x.lop(0, 1), -2);
        x.mend(0, 1, 1);
        x.mend(5, 3, 9);
        x.mend(1, 5, 1);
        C.is("falls however low", x.lop(5, 0), -2);
        x.mend(5, 3, 3);
        x.mend(0, 6, 0);
        C.is("1 is reached by 3 rows", x.lop(5, 1), 2);
        x.mend(1, 6, 0);
        x.mend(2, 6, 0);
        x.mend(5, 3, 4);
        C.is("5 is reached by HIGH 9 only", x.lop(5, 1), 8);
        x.mend(5, 3, 3);
        C.is("12 rows are not reached", x.lop(5, 1), -2);
        x.mend(0, 1, 9);
        x.mend(5, 3, 4);
        C.is("one less", x.lop(5, 0), 1);
        law(x, "h=7");
        C.is("the law sees the height", x.lop(5, 0), 0);
        x.mend(0, 1, 4);
        x.mend(1, 5, 0);
        C.is("HIGH 7 by the law: one of three wishes it", x.lop(5, 1), -2);
        x.mend(1, 5, 1);
        C.is("HIGH 7: two of three", x.lop(5, 1), 3);
        C.is("unmended", x.of(0, 1), 4);
        C.is("what below", x.lop(0, -1), -1);
        C.is("what above", x.lop(0, 2), -1);
    }

    private static void byTurns(ShadeVotes x, int tm, int n, int whether, int move) {
        C.is("whether by " + n, x.byTurns(tm, 10 * n), whether);
        C.is("move of " + n, x.byTurns(tm, 10 * n + 1), move);
    }

    private static void promise18ByTurns() {
        ShadeVotes x = oak();
        byTurns(x, 0, 1, 1, 1);
        byTurns(x, 5, 1, 1, 3);
        ShadeVotes y = new ShadeVotes();
        y.tree(200, 4);
        byTurns(y, 0, 1, 0, 10);
        byTurns(y, 0, 4, 0, 10);
        y.person(184, 1);
        byTurns(y, 0, 1, 1, 10);
        byTurns(y, 0, 2, 0, 0);
        byTurns(y, 0, 3, 1, 0);
        byTurns(y, 0, 4, 0, 0);
        y.mend(0, 4, 0);
        byTurns(y, 0, 1, 1, 0);
        byTurns(y, 0, 2, 0, 0);
        y.mend(0, 5, 0);
        byTurns(y, 0, 1, 0, 0);
        C.is("n of 0", y.byTurns(0, 0), -1);
        C.is("n of 0", y.byTurns(0, 1), -1);
        C.is("n of 5", y.byTurns(0, 50), -1);
        C.is("what 2", y.byTurns(0, 12), -1);
        C.is("below", y.byTurns(0, -1), -1);
        C.is("below", y.byTurns(0, -10), -1);
        C.is("far above", y.byTurns(0, Integer.MAX_VALUE), -1);
    }

    private static void promise18FourMoves() {
        ShadeVotes x = new ShadeVotes();
        x.tree(200, 4);
        for (int k = 0; k < 3; k++) x.person(184, 1);
        // Three for it: the other side can never take all of them away.
        for (int n = 1; n <= 4; n++) byTurns(x, 0, n, 1, 0);
        x.person(0, 0);
        x.mend(3, 6, 3);
        // 3 comes, and is as heavy as the three, who can do nothing ahead of that.
        byTurns(x, 0, 1, 1, 0);
        byTurns(x, 0, 2, 0, 0);
        // The first side moves last and sends 3 out again, if its three are there still.
        byTurns(x, 0, 3, 1, 0);
        byTurns(x, 0, 4, 0, 0);
        ShadeVotes y = new ShadeVotes();
        y.tree(200, 4);
        for (int k = 0; k < 3; k++) y.person(184, k < 2 ? 1 : 0);
        y.person(0, 0);
        y.mend(0, 6, 3);
        y.mend(1, 6, 2);
        y.mend(2, 6, 3);
        // 3 and 2 for it, 3 against it: only if 2 goes can the other side not send 0 out and win.
        byTurns(y, 0, 2, 1, 2);
        y.mend(3, 6, 3);
        byTurns(y, 0, 1, 1, 2);
        byTurns(y, 0, 2, 1, 2);
        y.mend(1, 6, 1);
        byTurns(y, 0, 2, 1, 2);
        y.mend(1, 6, 0);
        byTurns(y, 0, 1, 1, 2);
        byTurns(y, 0, 2, 0, 0);
    }

    private static void promise19Deepest() {
        ShadeVotes x = oak();
        C.is("the first of like ones", x.deepest(0, 0), 0);
        C.is("four", x.deepest(0, 1), 4);
        x.mend(0, 3, 2);
        C.is("only the last", x.deepest(0, 0), 11);
        C.is("four", x.deepest(0, 1), 4);
        x.mend(11, 3, 2);
        C.is("then month 1", x.deepest(0, 0), 1);
        C.is("three", x.deepest(0, 1), 3);
        x.tree(0, 1);
        C.is("nobody: the first", x.deepest(1, 0), 0);
        C.is("nobody", x.deepest(1, 1), 0);
        C.is("no such tree", x.deepest(2, 0), -1);
        C.is("below", x.deepest(-1, 0), -1);
        C.is("what below", x.deepest(0, -1), -1);
        C.is("what above", x.deepest(0, 2), -1);
    }

    private static void promise20Shadiest() {
        ShadeVotes x = oak();
        C.is("the least of like ones", x.shadiest(0, 0), 0);
        C.is("in one", x.shadiest(0, 1), 1);
        x.tree(12 * 16 + 10, 4);
        C.is("2 sits in both", x.shadiest(0, 0), 2);
        C.is("in two", x.shadiest(0, 1), 2);
        C.is("in month 6 each in one", x.shadiest(6, 0), 0);
        C.is("in one", x.shadiest(6, 1), 1);
        x.tree(12 * 16 + 10, 4);
        C.is("4 sits in two", x.shadiest(6, 0), 4);
        x.mend(6, 3, 0);
        C.is("nobody sits in any", x.shadiest(6, 0), -2);
        C.is("in none", x.shadiest(6, 1), 0);
        C.is("month below", x.shadiest(-1, 0), -1);
        C.is("month above", x.shadiest(12, 0), -1);
        C.is("what below", x.shadiest(0, -1), -1);
        C.is("what above", x.shadiest(0, 2), -1);
    }

    /** Five bare trees ahead of it: all that is asked of the last one is asked of it, and of its own month. */
    private static void laterTrees() {
        for (int t = 1; t <= 5; t++) {
            ShadeVotes x = new ShadeVotes();
            for (int k = 0; k < t; k++) x.tree(0, 1);
            x.tree(200, 4);
            x.person(184, 1 << t);
            x.person(151, 0);
            x.person(0, 1 << t);
            for (int m = 0; m < 12; m++) lookAtOak(x, t, m, 100 * t + m);
            C.is("first", x.first(100 * t + 11), 5);
            C.is("first", x.first(100 * t + 6), 6);
            C.is("deepest", x.deepest(t, 1), 2);
        }
    }

    private static void lookAtOak(ShadeVotes x, int t, int m, int tm) {
        boolean alone = m == 5 || m == 6;
        int[] rows = {12, 10, 8, 5, 4, 2, 2, 4, 5, 8, 10, 12};
        C.is("shade", x.shade(tm), alone ? 1 : 3);
        C.is("yes", x.votes(tm, 0), 1);
        C.is("all", x.votes(tm, 1), alone ? 1 : 2);
        C.is("whether", x.votes(tm, 2), alone ? 1 : 0);
        C.is("cells", x.votes(tm, 3), 3 * rows[m]);
        C.is("falls", x.falls(m), alone ? 1 << t : 0);
        C.is("turn", x.turn(tm, 0), 1);
        C.is("turn", x.turn(tm, 1), alone ? 1 : 2);
        C.is("chair", x.chair(tm), alone ? 1 : 2);
        fraction(x, tm, 0, 1, alone ? 1 : 2);
        C.is("lop", x.lop(tm, 0), alone ? 3 : 0);
        C.is("grow", x.lop(tm, 1), alone ? 0 : -2);
        byTurns(x, tm, 1, 1, alone ? 2 : 1);
    }

    private static void felledTrees() {
        ShadeVotes x = oak();
        x.tree(200, 4);
        for (int k = 0; k < 6; k++) x.noon();
        C.is("felled", x.of(0, 7), 0);
        C.is("nobody sits there", x.shade(0), 0);
        for (int what = 0; what <= 3; what++) C.is("votes", x.votes(5, what), 0);
        C.is("does not fall", x.falls(5), 0);
        C.is("never falls", x.falls(12), 3);
        C.is("first", x.first(0), -2);
        C.is("is not left", x.left(0, 0), 2);
        C.is("turn", x.turn(5, 0), -2);
        C.is("turn", x.turn(5, 1), -2);
        C.is("chair", x.chair(5), 0);
        fraction(x, 5, 0, 0, 1);
        C.is("lop", x.lop(0, 0), -2);
        C.is("grow", x.lop(5, 1), -2);
        byTurns(x, 5, 1, 0, 0);
        C.is("deepest", x.deepest(0, 0), 0);
        C.is("deepest", x.deepest(0, 1), 0);
        C.is("0 sits in one shade still", x.shadiest(0, 1), 1);
        C.is("what is not a lopping", x.lop(0, 2), -1);
    }

    private static void wrongTreeMonths() {
        ShadeVotes x = oak();
        for (int tm : new int[] {-1, -100, 12, 99, 100, 111, 600, Integer.MAX_VALUE, Integer.MIN_VALUE}) {
            C.is("shade", x.shade(tm), -1);
            C.is("votes", x.votes(tm, 0), -1);
            C.is("first", x.first(tm), -1);
            C.is("turn", x.turn(tm, 0), -1);
            C.is("chair", x.chair(tm), -1);
            C.is("power", x.power(tm, 0, 0), Long.MIN_VALUE);
            C.is("lop", x.lop(tm, 0), -1);
            C.is("byTurns", x.byTurns(tm, 10), -1);
        }
    }
}
