import java.util.Random;

/** Many lands by draws from fixed seeds, each call held against the slow and plain Model. */
public final class ModelTest {
    private static final Check C = new Check("ModelTest");
    private static final String[] LAWS = {
        null, null, "w", "n", "p", "9-p", "w*h/3", "n>2?w;p%3", "n=2?p;w+1", "(h>m)*w+(t=p)", "m<6&p>1|!w",
        "w-n+4", "h%3=0?5-w;n-p?w;2", "-n+p+w*2", "!(p=n)*(w+1)", "n<4?9-w*3;p%2=0?w;!w*3"
    };

    private final Random draws;
    private final ShadeVotes x = new ShadeVotes();
    private final Model model = new Model();
    private final int run;

    private ModelTest(int run) {
        this.run = run;
        draws = new Random(run * 31L + 7);
    }

    public static void main(String[] args) {
        for (int run = 0; run < 250; run++) new ModelTest(run).go();
        for (int run = 0; run < 40000; run++) faults(new Random(run));
        for (int run = 0; run < 3000; run++) laws(new Random(run));
        C.end();
    }

    private void is(String call, long got, long due) {
        C.is("run " + run + " (law " + model.law + "): " + call, got, due);
    }

    private void go() {
        settle();
        tell(LAWS[draws.nextInt(LAWS.length)]);
        look();
        if (draws.nextBoolean()) {
            int noons = 1 + draws.nextInt(6);
            for (int k = 0; k < noons; k++) noon(k);
            look();
        }
    }

    private void settle() {
        int trees = 1 + draws.nextInt(4);
        for (int t = 0; t < trees; t++) {
            int cell = 16 * (6 + draws.nextInt(10)) + draws.nextInt(16);
            int high = 1 + draws.nextInt(9);
            is("tree", x.tree(cell, high), t);
            model.tree(cell, high).broad = draws.nextInt(4);
            x.mend(t, 2, model.trees.get(t).broad);
        }
        int people = draws.nextInt(draws.nextInt(4) == 0 ? 11 : 8);
        for (int p = 0; p < people; p++) {
            int foot = model.trees.get(draws.nextInt(trees)).cell;
            int cell = foot - 16 * (1 + draws.nextInt(6)) + draws.nextInt(3) - 1;
            if (draws.nextInt(5) == 0 || cell < 0 || cell > 255) cell = draws.nextInt(256);
            int wish = draws.nextInt(64);
            is("person", x.person(cell, wish), p);
            model.person(cell, wish).weight = draws.nextInt(4);
            x.mend(p, 6, model.people.get(p).weight);
        }
        int month = draws.nextInt(12);
        model.low[month] = draws.nextInt(10);
        x.mend(month, 3, model.low[month]);
    }

    private void tell(String law) {
        if (law == null) return;
        for (int i = 0; i < law.length(); i++) x.feed(law.charAt(i));
        is("law", x.law(), 1);
        model.law = law;
    }

    private void noon(int month) {
        int felled = model.fallBits(month);
        is("noon", x.noon(), felled);
        for (int t : Model.set(felled)) model.trees.get(t).stands = false;
    }

    private void look() {
        int never = (1 << model.trees.size()) - 1;
        for (int m = 0; m < 12; m++) {
            is("falls " + m, x.falls(m), model.fallBits(m));
            never &= ~model.fallBits(m);
        }
        is("never", x.falls(12), never);
        for (int t = 0; t < model.trees.size(); t++) {
            int m = draws.nextInt(12);
            lookAt(t, m, 100 * t + m);
            lookThrough(t);
        }
        int m = draws.nextInt(12);
        int n = draws.nextInt(15);
        is("left", x.left(m, n), model.left(m, n));
        shadiest(draws.nextInt(12));
        for (int k = 0; k < 3; k++) drawn();
    }

    private void lookAt(int t, int m, int tm) {
        is("shade " + tm, x.shade(tm), Model.bits(model.sitters(t, m)));
        int high = model.trees.get(t).high;
        is("yes " + tm, x.votes(tm, 0), model.sum(t, m, high, model.sitters(t, m), true));
        is("all " + tm, x.votes(tm, 1), model.sum(t, m, high, model.sitters(t, m), false));
        is("whether " + tm, x.votes(tm, 2), model.falls(t, m) ? 1 : 0);
        is("cells " + tm, x.votes(tm, 3), model.cells(t, m).size());
        int who = model.turn(t, m);
        is("turn " + tm, x.turn(tm, 0), who == 0 ? -2 : Integer.bitCount(who));
        is("turn who " + tm, x.turn(tm, 1), who == 0 ? -2 : who);
        is("chair " + tm, x.chair(tm), model.chair(t, m));
        is("lop " + tm, x.lop(tm, 0), model.lop(t, m, false));
        is("grow " + tm, x.lop(tm, 1), model.lop(t, m, true));
        int moves = 1 + draws.nextInt(model.people.size() > 4 ? 2 : 4);
        boolean falls = model.fallsByTurns(t, m, Model.bits(model.sitters(t, m)), moves, true);
        is("byTurns " + tm + " " + moves, x.byTurns(tm, 10 * moves), falls ? 1 : 0);
        is("move " + tm + " " + moves, x.byTurns(tm, 10 * moves + 1), model.bestMove(t, m, moves));
        for (int p = 0; p < model.people.size(); p++) {
            long[] power = model.power(t, m, p);
            is("power above " + tm + " " + p, x.power(tm, p, 0), power[0]);
            is("power below " + tm + " " + p, x.power(tm, p, 1), power[1]);
        }
    }

    private void lookThrough(int t) {
        int deepest = 0;
        for (int m = 1; m < 12; m++) {
            if (model.sitters(t, m).size() > model.sitters(t, deepest).size()) deepest = m;
        }
        is("deepest", x.deepest(t, 0), deepest);
        is("deepest", x.deepest(t, 1), model.sitters(t, deepest).size());
        int from = draws.nextInt(12);
        int first = -2;
        for (int k = 11; k >= 0; k--) {
            if (model.falls(t, (from + k) % 12)) first = (from + k) % 12;
        }
        is("first", x.first(100 * t + from), first);
        if (model.people.size() > 0) {
            int one = draws.nextInt(model.people.size());
            int[] save = model.save(t, one);
            is("save where", x.save(100 * t + one, 0), save[0]);
            is("save months", x.save(100 * t + one, 1), save[1]);
        }
        int other = draws.nextInt(model.trees.size());
        boolean alike = model.cells(t, from).equals(model.cells(other, from));
        is("alike", x.alike(10 * t + other, from), alike ? 1 : 0);
        book(t);
    }

    private void book(int t) {
        byte[] book = new byte[draws.nextInt(5) * 2 + (draws.nextInt(8) == 0 ? 1 : 0)];
        for (int i = 0; i < book.length; i++) {
            int high = model.trees.get(t).high;
            int told = i % 2 == 0 ? draws.nextInt(12) : draws.nextInt(2);
            if (i % 2 == 1 && draws.nextInt(4) > 0) {
                int m = book[i - 1];
                told = m >= 0 && m < 12 && model.falls(t, m, high, model.sitters(t, m, high)) ? 1 : 0;
            }
            if (draws.nextInt(30) == 0) told = draws.nextInt(14) - 1;
            book[i] = (byte) told;
        }
        x.row(2, 0, book.length);
        for (int i = 0; i < book.length; i++) x.put(2, i, book[i]);
        is("judge", x.judge(2, t), model.judge(t, book));
        int[] wishes = model.wishSets(t, book);
        for (int what = 0; what < 3; what++) is("wishes " + what, x.wishes(2, t, what), wishes[what]);
    }

    private void shadiest(int m) {
        int best = -2;
        int most = 0;
        for (int p = 0; p < model.people.size(); p++) {
            int shades = 0;
            for (int t = 0; t < model.trees.size(); t++) shades += model.sitters(t, m).contains(p) ? 1 : 0;
            if (shades <= most) continue;
            most = shades;
            best = p;
        }
        is("shadiest", x.shadiest(m, 0), best);
        is("in how many", x.shadiest(m, 1), most);
    }

    private void drawn() {
        int seed = draws.nextInt();
        int years = 1 + draws.nextInt(6);
        int clouds = draws.nextInt(13);
        int tree = draws.nextInt(model.trees.size() + 1) - 1;
        is("drawn", x.drawn(seed, 100 * years + clouds, tree), model.drawn(seed, years, clouds, tree));
    }

    // ---- texts of laws

    private static void faults(Random draws) {
        String letters = "w1n(!-+*<|&?;)0";
        int length = draws.nextInt(14);
        StringBuilder text = new StringBuilder();
        while (text.length() < length) {
            char c = letters.charAt(draws.nextInt(letters.length()));
            // Mostly goes on as a text does, else the first bytes would be all that is ever looked at.
            text.append(c);
            int fault = Model.fault(text.toString());
            if (fault >= 0 && fault < text.length() && draws.nextInt(12) > 0) text.setLength(text.length() - 1);
        }
        ShadeVotes x = new ShadeVotes();
        for (int i = 0; i < text.length(); i++) x.feed(text.charAt(i));
        int fault = Model.fault(text.toString());
        C.is("law " + text, x.law(), fault < 0 ? 1 : -100 - fault);
    }

    private static String grown(Random draws, int level, int open) {
        if (level == 5) {
            int kind = draws.nextInt(open < 6 ? 12 : 9);
            if (kind < 4) return "" + draws.nextInt(draws.nextInt(8) == 0 ? 10000 : 10);
            if (kind < 9) return "" + "whmntp".charAt(draws.nextInt(6));
            if (kind == 9) return "!" + grown(draws, 5, open + 1);
            if (kind == 10) return "-" + grown(draws, 5, open + 1);
            return "(" + grown(draws, 0, open + 1) + ")";
        }
        StringBuilder text = new StringBuilder(grown(draws, level + 1, open));
        String signs = new String[] {"|", "&", "<=>", "+-", "*/%"}[level];
        while (draws.nextInt(3) == 0) {
            text.append(signs.charAt(draws.nextInt(signs.length()))).append(grown(draws, level + 1, open));
            if (level == 2) break;
        }
        return text.toString();
    }

    private static void laws(Random draws) {
        StringBuilder text = new StringBuilder(grown(draws, 0, 0));
        while (draws.nextInt(3) > 0) {
            if (draws.nextBoolean()) text.append('?').append(grown(draws, 0, 0));
            text.append(';').append(grown(draws, 0, 0));
        }
        String law = text.toString();
        if (law.length() > 120 || law.chars().filter(c -> c == '?').count() > 0 && Model.fault(law) >= 0) return;
        ShadeVotes x = new ShadeVotes();
        Model model = new Model();
        for (int i = 0; i < law.length(); i++) x.feed(law.charAt(i));
        C.is("law " + law, x.law(), 1);
        model.law = law;
        for (int t = 0; t < 3; t++) {
            x.tree(200, 5 + t);
            model.tree(200, 5 + t);
        }
        for (int p = 0; p < 4; p++) {
            x.person(184, 7 >> p);
            model.person(184, 7 >> p).weight = (p + 2) % 4;
            x.mend(p, 6, (p + 2) % 4);
        }
        for (int t = 0; t < 3; t++) {
            for (int m = 0; m < 12; m += 5) {
                int high = 5 + t;
                C.is("yes by " + law, x.votes(100 * t + m, 0), model.sum(t, m, high, model.sitters(t, m), true));
                C.is("all by " + law, x.votes(100 * t + m, 1), model.sum(t, m, high, model.sitters(t, m), false));
            }
        }
    }
}
