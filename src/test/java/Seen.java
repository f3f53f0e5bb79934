/** All that can be seen of an object without any change in it, to tell whether a refused call changed something. */
final class Seen {
    private Seen() {
    }

    static String of(ShadeVotes x) {
        StringBuilder seen = new StringBuilder();
        for (int what = 0; what < 8; what++) {
            for (int number = 0; number < 12; number++) seen.append(x.of(number, what)).append(' ');
        }
        for (int what = 0; what < 5; what++) seen.append(x.led(what)).append(' ');
        for (int what = 0; what < 6; what++) seen.append(x.count(what)).append(' ');
        for (int shelf = 0; shelf < 6; shelf++) {
            seen.append(x.taken(shelf, 0)).append(' ');
            for (int i = 0; i < 60; i++) seen.append(x.element(shelf, i)).append(' ');
        }
        for (int i = 0; i < 24; i++) seen.append(x.trace(i)).append(' ');
        for (int m = 0; m < 13; m++) seen.append(x.falls(m)).append(' ');
        return seen.toString();
    }
}
