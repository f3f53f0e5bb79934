import java.util.Random;

/** Any arguments in any state: no call throws or fails to end, and what is refused changes nothing. */
public final class SafetyTest {
    private static final Check C = new Check("SafetyTest");
    private static final int[] EDGES = {
        Integer.MIN_VALUE, Integer.MIN_VALUE + 1, -1000000, -101, -100, -15, -12, -11, -10, -3, -2, -1, 12, 13, 49, 50, 51, 59, 60,
        61, 63, 64, 99, 100, 101, 105, 111, 112, 119, 120, 121, 200, 255, 256, 257, 500, 511, 512, 599, 600, 1000, 3000, 3012,
        3013, 65536, Integer.MAX_VALUE - 1, Integer.MAX_VALUE
    };
    private static final String LETTERS = "whmntp0123456789|&<=>+-*/%!();?";

    private final Random draws;
    private final ShadeVotes x = new ShadeVotes();

    private SafetyTest(long seed) {
        draws = new Random(seed);
    }

    public static void main(String[] args) {
        for (int seed = 0; seed < 1500; seed++) new SafetyTest(seed).run();
        C.end();
    }

    private void run() {
        if (draws.nextBoolean()) settle();
        for (int k = 0; k < 300; k++) {
            int call = draws.nextInt(42);
            String before = draws.nextInt(8) == 0 ? Seen.of(x) : null;
            long answer;
            try {
                answer = call(call);
            } catch (RuntimeException | StackOverflowError thrown) {
                C.so("call " + call + " threw " + thrown, false);
                return;
            }
            C.so("answered", true);
            boolean refused = answer == -1 || answer == -3 || answer == -5 || answer <= -11 && answer >= -14
                    || answer == Long.MIN_VALUE;
            if (before != null && refused && call != 34) C.so("call " + call + " refused: as it was", Seen.of(x).equals(before));
        }
    }

    private void settle() {
        for (int k = 0; k < 4; k++) x.tree(draws.nextInt(256), 1 + draws.nextInt(9));
        for (int k = 0; k < 8; k++) x.person(draws.nextInt(256), draws.nextInt(64));
        for (int k = 0; k < 4; k++) x.body(draws.nextInt(8));
    }

    private int any(int below) {
        int kind = draws.nextInt(30);
        if (kind == 0) return EDGES[draws.nextInt(EDGES.length)];
        if (kind == 1) return draws.nextInt();
        return draws.nextInt(below);
    }

    private int tm() {
        return draws.nextInt(20) == 0 ? any(700) : 100 * any(6) + any(12);
    }

    private int letter() {
        return draws.nextInt(40) == 0 ? any(256) : LETTERS.charAt(draws.nextInt(LETTERS.length()));
    }

    private long call(int call) {
        switch (call) {
            case 0: return x.tree(any(256), any(10));
            case 1: return x.person(any(256), any(64));
            case 2: return x.people(any(6), any(60), any(11));
            case 3: return x.mend(any(12), any(8), any(12));
            case 4: return x.of(any(12), any(9));
            case 5: return x.feed(letter());
            case 6: return x.law();
            case 7: return x.shade(tm());
            case 8: return x.votes(tm(), any(4));
            case 9: return x.falls(any(13));
            case 10: return x.first(tm());
            case 11: return x.left(any(12), any(100));
            case 12: return x.turn(tm(), any(2));
            case 13: return x.chair(tm());
            case 14: return x.power(tm(), any(10), any(2));
            case 15: return x.lop(tm(), any(2));
            case 16: return x.byTurns(tm(), any(45));
            case 17: return x.deepest(any(6), any(2));
            case 18: return x.shadiest(any(12), any(2));
            case 19: return x.judge(any(6), any(6));
            case 20: return x.wishes(any(6), any(6), any(3));
            case 21: return x.save(100 * any(6) + any(10), any(2));
            case 22: return x.alike(10 * any(6) + any(6), any(12));
            case 23: return x.drawn(any(100), 100 * any(31) + any(13), any(7) - 1);
            case 24: return x.noon();
            case 25: return x.sits(any(10), any(256));
            case 26: return x.lopped(any(6));
            case 27: return x.led(any(5));
            case 28: return x.image();
            case 29: return x.back();
            case 30: return x.undo();
            case 31: return x.redo();
            case 32: return x.body(any(8));
            case 33: return x.trace(any(24));
            case 34: return x.act(any(8), any(4), any(100));
            case 35: return x.keep(any(6), any(8) - 1);
            case 36: return x.row(any(6), any(5), any(61));
            case 37: return x.put(any(6), any(60), draws.nextBoolean() ? any(12) : draws.nextLong());
            case 38: return x.element(any(6), any(60));
            case 39: return x.shift(any(6), any(60), any(6), any(60), any(60));
            case 40: return x.taken(any(6), any(8));
            default: return x.count(any(6));
        }
    }
}
