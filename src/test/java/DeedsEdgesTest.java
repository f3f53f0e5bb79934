/**
 * The boundary cases that the document names for noons in deed, the image and changes (promises 26 to 33): one
 * function for each sentence, which stands above it.
 */
public final class DeedsEdgesTest {
    private static final Check C = new Check("DeedsEdgesTest");
    private static final int LEAST = Integer.MIN_VALUE, MOST = Integer.MAX_VALUE;

    public static void main(String[] args) {
        monthGoesRound();
        noonFellsWhatFalls();
        noonOfNothing();
        sitsInCells();
        sitsRefused();
        loppedToHigh1();
        loppedFelled();
        loppedRefused();
        ledAtFirst();
        ledRefused();
        noImage();
        imageOfABareLand();
        imageKeepsWhatIsNamed();
        imageKeepsNoMore();
        treesThatCameSinceStand();
        peopleThatCameSince();
        imageAgain();
        nothingToUndo();
        sameNumberIsNoChange();
        latestFirst();
        otherCameBehind();
        fortyAreKept();
        allNumbersCanBeUndone();
        deedsAreNoChanges();
        C.end();
    }

    /** Tree 0 (HIGH 4) has two rows of shade at least; 0, who wishes all felled, sits in the row above it. */
    private static ShadeVotes oak() {
        ShadeVotes x = new ShadeVotes();
        C.is("oak", x.tree(200, 4), 0);
        C.is("one", x.person(11 * 16 + 8, 63), 0);
        return x;
    }

    /** "it is MONTH 0 at first", "the next MONTH comes (0 behind 11)". */
    private static void monthGoesRound() {
        ShadeVotes x = new ShadeVotes();
        C.is("at first", x.led(4), 0);
        for (int k = 1; k <= 40; k++) {
            C.is("none is felled", x.noon(), 0);
            C.is("month", x.led(4), k % 12);
            C.is("noons", x.led(0), k);
        }
        // What falls in month 0 alone falls at the first noon, or twelve behind it.
        for (int month = 0; month < 12; month++) {
            ShadeVotes y = oak();
            y.mend(0, 5, 0);
            for (int m = 0; m < 12; m++) y.mend(m, 3, m == month ? 9 : 0);
            for (int k = 0; k < 12; k++) y.noon();
            C.is("round the year", y.led(4), 0);
            y.mend(0, 5, 1);
            for (int k = 0; k < 12; k++) C.is("month " + k, y.noon(), k == month ? 1 : 0);
        }
    }

    /** "NOON: what FALLS is felled": once, and all at once. */
    private static void noonFellsWhatFalls() {
        ShadeVotes x = oak();
        for (int t = 1; t < 6; t++) x.tree(200, 4);
        C.is("all at once", x.noon(), 63);
        C.is("six felled", x.led(1), 6);
        C.is("none again", x.noon(), 0);
        C.is("six felled still", x.led(1), 6);
        for (int t = 0; t < 6; t++) C.is("stands no more", x.of(t, 7), 0);
        ShadeVotes y = oak();
        y.tree(200, 4);
        y.mend(0, 5, 2);
        C.is("the second alone", y.noon(), 2);
        C.is("the first stands", y.of(0, 7), 1);
        C.is("the second does not", y.of(1, 7), 0);
        y.mend(0, 5, 3);
        C.is("the first now", y.noon(), 1);
        C.is("two felled", y.led(1), 2);
    }

    /** A noon without trees, without people, without whoever counts fells none, and comes all the same. */
    private static void noonOfNothing() {
        ShadeVotes x = new ShadeVotes();
        C.is("a bare land", x.noon(), 0);
        x.tree(200, 4);
        C.is("nobody there", x.noon(), 0);
        x.person(11 * 16 + 8, 1);
        x.mend(0, 6, 0);
        C.is("nobody counts", x.noon(), 0);
        C.is("three noons", x.led(0), 3);
        C.is("none felled", x.led(1), 0);
        C.is("month 3", x.led(4), 3);
    }

    /** "One SITS in a CELL: where he sat." */
    private static void sitsInCells() {
        ShadeVotes x = oak();
        C.is("to the first", x.sits(0, 0), 11 * 16 + 8);
        C.is("to the last", x.sits(0, 255), 0);
        C.is("back", x.sits(0, 11 * 16 + 8), 255);
        C.is("three moves", x.led(2), 3);
        C.is("he sits there in thought, too", x.shade(0), 1);
        for (int p = 1; p < 10; p++) x.person(p, 0);
        C.is("the last one", x.sits(9, 77), 9);
        C.is("sits there", x.of(9, 4), 77);
        C.is("the one ahead of him does not", x.of(8, 4), 8);
        C.is("four moves", x.led(2), 4);
    }

    /** sits(): "BAD." Nothing is changed then, and no move led. */
    private static void sitsRefused() {
        ShadeVotes x = new ShadeVotes();
        C.is("nobody", x.sits(0, 0), -1);
        x.person(5, 5);
        String was = Seen.of(x);
        for (int cell : new int[] {-1, 256, LEAST, MOST}) C.is("cell " + cell, x.sits(0, cell), -1);
        for (int one : new int[] {-1, 1, 10, LEAST, MOST}) C.is("one " + one, x.sits(one, 0), -1);
        C.so("as it was", was.equals(Seen.of(x)));
        C.is("no moves", x.led(2), 0);
    }

    /** "a TREE is LOPPED by one (HIGH 1 at least)": "STATE: it is 1". */
    private static void loppedToHigh1() {
        for (int high = 1; high <= 9; high++) {
            ShadeVotes x = new ShadeVotes();
            x.tree(200, high);
            for (int then = high - 1; then >= 1; then--) C.is("HIGH then", x.lopped(0), then);
            String was = Seen.of(x);
            C.is("it is 1", x.lopped(0), -5);
            C.is("it is 1 still", x.lopped(0), -5);
            C.so("as it was", was.equals(Seen.of(x)));
            C.is("HIGH", x.of(0, 1), 1);
            C.is("loppings", x.led(3), high - 1);
            x.mend(0, 1, 2);
            C.is("by mend() it may be lopped again", x.lopped(0), 1);
        }
    }

    /** "STATE: .. or felled." */
    private static void loppedFelled() {
        ShadeVotes x = oak();
        x.noon();
        String was = Seen.of(x);
        C.is("felled", x.lopped(0), -5);
        C.so("as it was", was.equals(Seen.of(x)));
        x.mend(0, 1, 1);
        C.is("felled and 1", x.lopped(0), -5);
        C.is("no loppings", x.led(3), 0);
    }

    /** lopped(): "BAD", named ahead of STATE. */
    private static void loppedRefused() {
        ShadeVotes x = new ShadeVotes();
        C.is("none", x.lopped(0), -1);
        for (int t = 0; t < 6; t++) {
            C.is("not yet", x.lopped(t), -1);
            x.tree(0, 1);
            C.is("it is 1", x.lopped(t), -5);
        }
        for (int tree : new int[] {-1, 6, LEAST, MOST}) C.is("tree " + tree, x.lopped(tree), -1);
    }

    /** "LED: noons, felled ones, moves, loppings, the MONTH." */
    private static void ledAtFirst() {
        ShadeVotes x = oak();
        for (int what = 0; what <= 4; what++) C.is("at first", x.led(what), 0);
        x.mend(0, 4, 0);
        x.mend(0, 1, 9);
        for (int what = 0; what <= 4; what++) C.is("mend() is not led", x.led(what), 0);
        x.lopped(0);
        C.is("a lopping", x.led(3), 1);
        x.sits(0, 11 * 16 + 8);
        C.is("a move", x.led(2), 1);
        x.noon();
        int[] due = {1, 1, 1, 1, 1};
        for (int what = 0; what <= 4; what++) C.is("one of each", x.led(what), due[what]);
        x.noon();
        int[] then = {2, 1, 1, 1, 2};
        for (int what = 0; what <= 4; what++) C.is("then", x.led(what), then[what]);
    }

    /** led(): "BAD." */
    private static void ledRefused() {
        ShadeVotes x = oak();
        for (int what : new int[] {-1, 5, 6, LEAST, MOST}) C.is("what " + what, x.led(what), -1);
    }

    /** back(): "STATE: there is none." */
    private static void noImage() {
        ShadeVotes x = oak();
        x.noon();
        String was = Seen.of(x);
        C.is("there is none", x.back(), -5);
        C.so("as it was", was.equals(Seen.of(x)));
        C.is("it is kept", x.image(), 1);
        C.is("there is one", x.back(), 1);
        C.is("there is one still", x.back(), 1);
    }

    /** AN IMAGE of a land without trees and people. */
    private static void imageOfABareLand() {
        ShadeVotes x = new ShadeVotes();
        C.is("kept", x.image(), 0);
        for (int k = 0; k < 13; k++) x.noon();
        C.is("laid back", x.back(), 0);
        for (int what = 0; what <= 4; what++) C.is("led", x.led(what), 0);
        for (int t = 0; t < 6; t++) x.tree(200, t + 1);
        for (int p = 0; p < 10; p++) x.person(p, p);
        C.is("laid back", x.back(), 0);
        C.is("trees stay", x.count(0), 6);
        C.is("people stay", x.count(1), 10);
        C.is("as high as they are", x.of(5, 1), 6);
        C.is("where they sit", x.of(9, 4), 9);
    }

    /** "AN IMAGE keeps what stands, HIGH, CELLS of PEOPLE, what LED tells." */
    private static void imageKeepsWhatIsNamed() {
        ShadeVotes x = new ShadeVotes();
        for (int t = 0; t < 6; t++) x.tree(200, t + 4);
        for (int p = 0; p < 10; p++) x.person(11 * 16 + 8, 20);
        C.is("two felled", x.noon(), 20);
        x.sits(0, 3);
        x.lopped(0);
        C.is("kept", x.image(), 1);
        x.mend(9, 5, 63);
        for (int p = 0; p < 9; p++) x.sits(p, 240 + p);
        C.is("the others felled", x.noon(), 43);
        x.mend(9, 4, 200);
        for (int t = 0; t < 6; t++) x.mend(t, 1, 1);
        for (int k = 0; k < 20; k++) x.noon();
        C.is("laid back", x.back(), 1);
        int[] led = {1, 2, 1, 1, 1};
        for (int what = 0; what <= 4; what++) C.is("led", x.led(what), led[what]);
        for (int t = 0; t < 6; t++) {
            C.is("stands or not", x.of(t, 7), t == 2 || t == 4 ? 0 : 1);
            C.is("HIGH", x.of(t, 1), t == 0 ? 3 : t + 4);
        }
        for (int p = 0; p < 10; p++) C.is("his cell", x.of(p, 4), p == 0 ? 3 : 11 * 16 + 8);
    }

    /** What AN IMAGE does not name stays: CELL and BROAD of trees, LOW, WISH, WEIGHT, the law, the tape, shelves, voters. */
    private static void imageKeepsNoMore() {
        ShadeVotes x = oak();
        x.image();
        x.mend(0, 0, 201);
        x.mend(0, 2, 3);
        x.mend(0, 3, 1);
        x.mend(0, 5, 1);
        x.mend(0, 6, 2);
        for (char c : "w+3".toCharArray()) x.feed(c);
        x.law();
        x.feed('w');
        x.body(6);
        x.act(0, 0, 4);
        x.row(2, 2, 2);
        x.put(2, 1, 9);
        C.is("laid back", x.back(), 0);
        C.is("CELL of a tree", x.of(0, 0), 201);
        C.is("BROAD", x.of(0, 2), 3);
        C.is("LOW", x.of(0, 3), 1);
        C.is("WISH", x.of(0, 5), 1);
        C.is("WEIGHT", x.of(0, 6), 2);
        C.is("by the law", x.votes(5, 1), 5);
        C.is("the tape", x.count(2), 1);
        C.is("voters", x.count(4), 1);
        C.is("the trace", x.trace(0), 70);
        C.is("a row", x.element(2, 1), 9);
        C.is("changes", x.count(3), 5);
    }

    /** "(TREES that came since stand ..)". */
    private static void treesThatCameSinceStand() {
        ShadeVotes x = oak();
        x.tree(0, 3);
        C.is("two at the image", x.image(), 0);
        for (int t = 2; t < 6; t++) x.tree(200, 9);
        C.is("felled", x.noon(), 61);
        x.mend(5, 1, 2);
        C.is("laid back", x.back(), 0);
        for (int t = 0; t < 6; t++) C.is("stands", x.of(t, 7), 1);
        C.is("those of the image are as high as then", x.of(0, 1), 4);
        C.is("the others as they are", x.of(5, 1), 2);
        C.is("felled again", x.noon(), 61);
    }

    /** "(.. PEOPLE that came since as they are)". */
    private static void peopleThatCameSince() {
        ShadeVotes x = oak();
        x.image();
        for (int p = 1; p < 10; p++) x.person(p, 0);
        for (int p = 0; p < 10; p++) x.sits(p, 100 + p);
        C.is("laid back", x.back(), 0);
        C.is("the one of the image", x.of(0, 4), 11 * 16 + 8);
        for (int p = 1; p < 10; p++) C.is("as he is", x.of(p, 4), 100 + p);
        C.is("ten", x.count(1), 10);
        C.is("moves as then", x.led(2), 0);
    }

    /** "AN IMAGE is kept: noons." The latest. */
    private static void imageAgain() {
        ShadeVotes x = oak();
        x.mend(0, 5, 0);
        for (int k = 0; k < 5; k++) {
            C.is("noons", x.image(), k);
            x.noon();
            x.noon();
            C.is("laid back", x.back(), k);
            x.noon();
        }
        C.is("noons", x.led(0), 5);
        C.is("to the latest", x.back(), 4);
        C.is("noons", x.led(0), 4);
        C.is("the month", x.led(4), 4);
    }

    /** "UNDONE: how many may still be. STATE: none." and "DONE AGAIN: .. STATE: none." */
    private static void nothingToUndo() {
        ShadeVotes x = oak();
        String was = Seen.of(x);
        C.is("undo", x.undo(), -5);
        C.is("redo", x.redo(), -5);
        C.so("as it was", was.equals(Seen.of(x)));
        x.mend(0, 6, 3);
        C.is("nothing undone yet", x.redo(), -5);
        C.is("none may still be", x.undo(), 0);
        C.is("none", x.undo(), -5);
        C.is("none may still be done again", x.redo(), 0);
        C.is("none", x.redo(), -5);
        C.is("it is done", x.of(0, 6), 3);
    }

    /** "(.. telling the same number is none)". */
    private static void sameNumberIsNoChange() {
        ShadeVotes x = oak();
        int[] as = {200, 4, 1, 9, 11 * 16 + 8, 63, 1};
        int[] other = {0, 1, 0, 0, 0, 0, 0};
        for (int what = 0; what <= 6; what++) {
            C.is("as it is", x.mend(0, what, as[what]), as[what]);
            C.is("no change", x.count(3), 0);
        }
        C.is("nothing to undo", x.undo(), -5);
        for (int what = 0; what <= 6; what++) {
            x.mend(0, what, other[what]);
            C.is("a change", x.count(3), what + 1);
        }
        x.undo();
        for (int what = 0; what <= 6; what++) x.mend(0, what, x.of(0, what));
        C.is("nothing came behind what was undone", x.redo(), 0);
        C.is("done again", x.of(0, 6), 0);
        C.is("there and back are two", x.mend(0, 6, 1) + x.mend(0, 6, 0), 1);
        C.is("nine", x.count(3), 9);
    }

    /** "UNDONE, the latest first, and DONE AGAIN": "how many may still be". */
    private static void latestFirst() {
        ShadeVotes x = oak();
        for (int k = 1; k <= 5; k++) x.mend(0, 0, k);
        for (int k = 4; k >= 0; k--) {
            C.is("may still be undone", x.undo(), k);
            C.is("so many", x.count(3), k);
            C.is("its cell", x.of(0, 0), k == 0 ? 200 : k);
        }
        C.is("none", x.undo(), -5);
        for (int k = 1; k <= 5; k++) {
            C.is("may still be done again", x.redo(), 5 - k);
            C.is("may be undone", x.count(3), k);
            C.is("its cell", x.of(0, 0), k);
        }
        C.is("none", x.redo(), -5);
    }

    /** "(as long as no other came behind)". */
    private static void otherCameBehind() {
        ShadeVotes x = oak();
        x.mend(0, 0, 1);
        x.mend(0, 0, 2);
        x.mend(0, 0, 3);
        x.undo();
        x.undo();
        C.is("one may be done again behind it", x.redo(), 1);
        C.is("another", x.mend(0, 6, 2), 1);
        C.is("none may be done again", x.redo(), -5);
        C.is("three: 1, 2 and the other", x.count(3), 3);
        C.is("the other is undone", x.undo(), 2);
        C.is("WEIGHT", x.of(0, 6), 1);
        C.is("then 2", x.undo(), 1);
        C.is("it was 1", x.of(0, 0), 1);
        C.is("refused ones do not come behind", x.mend(0, 0, 256), -1);
        C.is("so it is done again", x.redo(), 1);
        C.is("2", x.of(0, 0), 2);
        C.is("and the other", x.redo(), 0);
        C.is("WEIGHT", x.of(0, 6), 2);
    }

    /** "40 at most are kept". */
    private static void fortyAreKept() {
        for (int many : new int[] {39, 40, 41, 80, 95}) {
            ShadeVotes x = oak();
            for (int k = 1; k <= many; k++) x.mend(0, 0, k);
            int kept = Math.min(many, 40);
            C.is("kept of " + many, x.count(3), kept);
            for (int k = kept - 1; k >= 0; k--) C.is("undone", x.undo(), k);
            C.is("no more", x.undo(), -5);
            C.is("the oldest that is kept is undone", x.of(0, 0), many <= 40 ? 200 : many - 40);
            for (int k = kept - 1; k >= 0; k--) C.is("done again", x.redo(), k);
            C.is("no more", x.redo(), -5);
            C.is("the latest", x.of(0, 0), many);
        }
        ShadeVotes y = oak();
        for (int k = 1; k <= 40; k++) y.mend(0, 0, k);
        for (int k = 0; k < 40; k++) y.undo();
        y.mend(0, 6, 2);
        C.is("one, and none behind it", y.count(3), 1);
        C.is("none", y.redo(), -5);
        for (int k = 1; k <= 40; k++) y.mend(0, 0, k);
        C.is("forty", y.count(3), 40);
        for (int k = 39; k >= 0; k--) y.undo();
        C.is("the one is no more", y.of(0, 6), 2);
    }

    /** "CHANGES (all numbers of mend() ..) can be UNDONE": of the first and the last that has each. */
    private static void allNumbersCanBeUndone() {
        int[] last = {5, 5, 5, 11, 9, 9, 9};
        int[] other = {77, 8, 3, 7, 77, 7, 3};
        for (int what = 0; what <= 6; what++) {
            for (int who : new int[] {0, last[what]}) {
                ShadeVotes x = new ShadeVotes();
                for (int t = 0; t < 6; t++) x.tree(t, 2);
                for (int p = 0; p < 10; p++) x.person(p, 1);
                String before = Seen.of(x);
                int was = x.of(who, what);
                C.is("what it was", x.mend(who, what, other[what]), was);
                String after = Seen.of(x);
                C.is("undone", x.undo(), 0);
                C.so("all is as it was", before.equals(Seen.of(x)));
                C.is("done again", x.redo(), 0);
                C.so("all is as it was told", after.equals(Seen.of(x)));
            }
        }
    }

    /** "deeds are none (CELLS, HIGH by them, too)". */
    private static void deedsAreNoChanges() {
        ShadeVotes x = oak();
        x.sits(0, 7);
        x.lopped(0);
        x.noon();
        x.image();
        x.back();
        x.tree(0, 5);
        x.person(0, 0);
        x.row(0, 1, 3);
        x.people(0, 0, 1);
        C.is("no changes", x.count(3), 0);
        C.is("nothing to undo", x.undo(), -5);
        C.is("he sits there still", x.of(0, 4), 7);
        C.is("as high still", x.of(0, 1), 3);
        x.mend(0, 1, 9);
        x.undo();
        x.sits(0, 8);
        x.lopped(0);
        x.noon();
        x.tree(0, 5);
        x.person(0, 0);
        C.is("they do not come behind, either", x.redo(), 0);
        C.is("as told", x.of(0, 1), 9);
    }
}
