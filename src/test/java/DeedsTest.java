/** Promises 26 to 33: noons, moves and loppings in deed, the image, changes undone and done again. */
public final class DeedsTest {
    private static final Check C = new Check("DeedsTest");

    public static void main(String[] args) {
        promise26Noon();
        promise27Sits();
        promise28Lopped();
        promise29Led();
        promise30And31Image();
        promise31CameSince();
        promise31Again();
        promise32And33UndoRedo();
        promise32DeedsAreNone();
        promise32FortyAreKept();
        promise32EveryNumber();
        C.end();
    }

    /** Tree 0 falls in months 5 and 6, tree 1 in months 0, 1, 10 and 11, tree 2 never. */
    private static ShadeVotes wood() {
        ShadeVotes x = new ShadeVotes();
        x.tree(200, 4);
        x.tree(15 * 16 + 2, 4);
        x.tree(0, 9);
        C.is("0, always under tree 0", x.person(11 * 16 + 8, 1), 0);
        C.is("1, under tree 0 from 3 rows on", x.person(9 * 16 + 7, 0), 1);
        C.is("2, under tree 1 from 9 rows on", x.person(6 * 16 + 2, 2), 2);
        return x;
    }

    private static void promise26Noon() {
        ShadeVotes x = wood();
        C.is("in thought", x.falls(0), 2);
        C.is("month 0", x.noon(), 2);
        C.is("felled", x.of(1, 7), 0);
        C.is("does not fall again", x.noon(), 0);
        for (int m = 2; m < 5; m++) C.is("none", x.noon(), 0);
        C.is("month 5", x.noon(), 1);
        C.is("month 6: it is gone", x.noon(), 0);
        for (int m = 7; m < 12; m++) C.is("none", x.noon(), 0);
        C.is("behind 11 comes 0", x.led(4), 0);
        C.is("twelve noons", x.led(0), 12);
        C.is("the last stands", x.of(2, 7), 1);
        ShadeVotes y = wood();
        y.mend(0, 6, 3);
        C.is("two at once", y.noon(), 3);
        C.is("two felled", y.led(1), 2);
    }

    private static void promise27Sits() {
        ShadeVotes x = wood();
        C.is("where he sat", x.sits(2, 0), 6 * 16 + 2);
        C.is("where he sits", x.of(2, 4), 0);
        C.is("in no shade", x.falls(0), 0);
        C.is("to the last cell", x.sits(2, 255), 0);
        C.is("two moves", x.led(2), 2);
        C.is("nobody", x.sits(3, 0), -1);
        C.is("below", x.sits(-1, 0), -1);
        C.is("cell below", x.sits(0, -1), -1);
        C.is("cell above", x.sits(0, 256), -1);
        C.is("no move", x.led(2), 2);
    }

    private static void promise28Lopped() {
        ShadeVotes x = wood();
        C.is("HIGH then", x.lopped(0), 3);
        C.is("HIGH", x.of(0, 1), 3);
        C.is("HIGH then", x.lopped(0), 2);
        C.is("HIGH then", x.lopped(0), 1);
        C.is("it is 1", x.lopped(0), -5);
        C.is("still 1", x.of(0, 1), 1);
        C.is("three", x.led(3), 3);
        x.noon();
        C.is("felled", x.lopped(1), -5);
        C.is("as high as it was", x.of(1, 1), 4);
        C.is("no such tree", x.lopped(3), -1);
        C.is("below", x.lopped(-1), -1);
        C.is("three still", x.led(3), 3);
    }

    private static void promise29Led() {
        ShadeVotes x = wood();
        x.noon();
        x.noon();
        x.sits(0, 1);
        x.sits(1, 2);
        x.sits(2, 3);
        for (int k = 0; k < 4; k++) x.lopped(2);
        int[] due = {2, 1, 3, 4, 2};
        for (int what = 0; what < 5; what++) C.is("led", x.led(what), due[what]);
        C.is("below", x.led(-1), -1);
        C.is("above", x.led(5), -1);
        for (int k = 0; k < 11; k++) x.noon();
        C.is("noons", x.led(0), 13);
        C.is("month", x.led(4), 1);
    }

    private static void promise30And31Image() {
        ShadeVotes x = wood();
        C.is("there is none", x.back(), -5);
        x.noon();
        x.sits(2, 7);
        x.lopped(2);
        C.is("kept", x.image(), 1);
        for (int k = 0; k < 5; k++) x.noon();
        C.is("0 is felled", x.of(0, 7), 0);
        x.sits(0, 100);
        x.lopped(2);
        x.mend(1, 4, 55);
        x.mend(0, 1, 9);
        x.mend(0, 0, 9);
        x.mend(0, 2, 3);
        x.mend(0, 3, 5);
        x.mend(0, 5, 60);
        x.mend(0, 6, 0);
        C.is("laid back", x.back(), 1);
        int[] led = {1, 1, 1, 1, 1};
        for (int what = 0; what < 5; what++) C.is("led", x.led(what), led[what]);
        C.is("0 stands", x.of(0, 7), 1);
        C.is("1 does not", x.of(1, 7), 0);
        C.is("HIGH of 0", x.of(0, 1), 4);
        C.is("HIGH of 2", x.of(2, 1), 8);
        C.is("0 sits there", x.of(0, 4), 11 * 16 + 8);
        C.is("1 sits there", x.of(1, 4), 9 * 16 + 7);
        C.is("2 sits there", x.of(2, 4), 7);
        C.is("CELL of a tree is not of it", x.of(0, 0), 9);
        C.is("nor BROAD", x.of(0, 2), 3);
        C.is("nor LOW", x.of(0, 3), 5);
        C.is("nor WISH", x.of(0, 5), 60);
        C.is("nor WEIGHT", x.of(0, 6), 0);
        C.is("nor the changes", x.count(3), 7);
    }

    private static void promise31CameSince() {
        ShadeVotes x = new ShadeVotes();
        C.is("of a bare land", x.image(), 0);
        x.tree(200, 4);
        x.tree(0, 3);
        x.person(184, 1);
        x.mend(0, 3, 8);
        C.is("felled", x.noon(), 1);
        x.lopped(1);
        x.sits(0, 9);
        C.is("laid back", x.back(), 0);
        C.is("those that came since stand", x.of(0, 7), 1);
        C.is("both", x.of(1, 7), 1);
        C.is("as high as they are", x.of(1, 1), 2);
        C.is("who came since sits as he does", x.of(0, 4), 9);
        C.is("led", x.led(1), 0);
        C.is("led", x.led(2), 0);
        C.is("led", x.led(3), 0);
        C.is("month", x.led(4), 0);
        C.is("LOW as mended", x.of(0, 3), 8);
        C.is("two trees still", x.count(0), 2);
        C.is("one still", x.count(1), 1);
    }

    private static void promise31Again() {
        ShadeVotes x = wood();
        x.image();
        x.noon();
        C.is("laid back", x.back(), 0);
        C.is("felled again", x.noon(), 2);
        C.is("laid back again", x.back(), 0);
        C.is("stands again", x.of(1, 7), 1);
        x.noon();
        x.noon();
        C.is("another image", x.image(), 2);
        x.noon();
        C.is("to the latest", x.back(), 2);
        C.is("felled in it", x.of(1, 7), 0);
    }

    private static void promise32And33UndoRedo() {
        ShadeVotes x = wood();
        C.is("none", x.undo(), -5);
        C.is("none", x.redo(), -5);
        x.mend(0, 0, 10);
        x.mend(0, 0, 20);
        x.mend(0, 0, 20);
        x.mend(0, 0, 256);
        x.mend(1, 5, 33);
        C.is("three: telling the same is none", x.count(3), 3);
        C.is("two may still be", x.undo(), 2);
        C.is("the latest first", x.of(1, 5), 0);
        C.is("still 20", x.of(0, 0), 20);
        C.is("one", x.undo(), 1);
        C.is("10", x.of(0, 0), 10);
        C.is("none", x.undo(), 0);
        C.is("200", x.of(0, 0), 200);
        C.is("nothing left", x.undo(), -5);
        C.is("two may be done again still", x.redo(), 2);
        C.is("10", x.of(0, 0), 10);
        C.is("one may be undone", x.count(3), 1);
        C.is("one", x.redo(), 1);
        C.is("20", x.of(0, 0), 20);
        C.is("none", x.redo(), 0);
        C.is("33", x.of(1, 5), 33);
        C.is("nothing left", x.redo(), -5);
        x.undo();
        x.mend(0, 0, 20);
        C.is("no change came behind", x.redo(), 0);
        x.undo();
        x.mend(2, 6, 3);
        C.is("another came behind", x.redo(), -5);
        C.is("three", x.count(3), 3);
        C.is("undone", x.undo(), 2);
        C.is("undone", x.of(2, 6), 1);
        x.tree(5, 5);
        x.person(5, 5);
        C.is("these are no changes", x.redo(), 0);
        C.is("done again", x.of(2, 6), 3);
    }

    private static void promise32DeedsAreNone() {
        ShadeVotes x = wood();
        x.mend(0, 4, 50);
        x.mend(2, 1, 7);
        x.undo();
        x.sits(0, 60);
        x.lopped(2);
        x.noon();
        x.image();
        x.back();
        C.is("deeds are none", x.count(3), 1);
        C.is("nor do they come behind", x.redo(), 0);
        C.is("told again", x.of(2, 1), 7);
        C.is("undone", x.undo(), 1);
        C.is("as it was told of", x.of(2, 1), 9);
        C.is("undone", x.undo(), 0);
        C.is("ahead of the change", x.of(0, 4), 11 * 16 + 8);
        C.is("done again", x.redo(), 1);
        C.is("what was told", x.of(0, 4), 50);
        C.is("felled still", x.of(1, 7), 0);
    }

    private static void promise32FortyAreKept() {
        ShadeVotes x = wood();
        for (int k = 1; k <= 45; k++) {
            x.mend(0, 0, k);
            C.is("kept", x.count(3), Math.min(k, 40));
        }
        for (int k = 39; k >= 0; k--) {
            C.is("undone", x.undo(), k);
            C.is("cell", x.of(0, 0), k + 5);
        }
        C.is("no more", x.undo(), -5);
        C.is("the sixth was the oldest", x.of(0, 0), 5);
        for (int k = 39; k >= 0; k--) {
            C.is("done again", x.redo(), k);
            C.is("cell", x.of(0, 0), 45 - k);
        }
        C.is("no more", x.redo(), -5);
        for (int k = 0; k < 20; k++) x.undo();
        x.mend(0, 0, 99);
        C.is("one behind twenty", x.count(3), 21);
        C.is("none again", x.redo(), -5);
        C.is("undone", x.undo(), 20);
        C.is("cell", x.of(0, 0), 25);
    }

    private static void promise32EveryNumber() {
        int[] told = {3, 2, 0, 1, 77, 9, 2};
        for (int what = 0; what <= 6; what++) {
            ShadeVotes x = wood();
            int was = x.mend(1, what, told[what]);
            C.is("told", x.of(1, what), told[what]);
            C.is("undone", x.undo(), 0);
            C.is("as it was", x.of(1, what), was);
            C.is("done again", x.redo(), 0);
            C.is("as told", x.of(1, what), told[what]);
        }
    }
}
