import java.util.ArrayList;
import java.util.List;
import java.util.Set;
import java.util.TreeSet;

/** The document's land said once more, as slowly and plainly as can be, to be held against the class. */
final class Model {
    static final class Tree {
        int cell;
        int high;
        int broad = 1;
        boolean stands = true;
    }

    static final class Person {
        int cell;
        int wish;
        int weight = 1;
    }

    final List<Tree> trees = new ArrayList<>();
    final List<Person> people = new ArrayList<>();
    final int[] low = {9, 8, 6, 4, 3, 2, 2, 3, 4, 6, 8, 9};
    String law;

    Tree tree(int cell, int high) {
        Tree tree = new Tree();
        tree.cell = cell;
        tree.high = high;
        trees.add(tree);
        return tree;
    }

    Person person(int cell, int wish) {
        Person person = new Person();
        person.cell = cell;
        person.wish = wish;
        people.add(person);
        return person;
    }

    // ---- the law, by cutting its text at the signs that bind least

    private static int cut(String text, String signs) {
        int depth = 0;
        for (int i = text.length() - 1; i > 0; i--) {
            char c = text.charAt(i);
            if (c == ')') depth++;
            if (c == '(') depth--;
            boolean binary = "+-*/%|&<=>!(?;".indexOf(text.charAt(i - 1)) < 0;
            if (depth == 0 && binary && signs.indexOf(c) >= 0) return i;
        }
        return -1;
    }

    private static int value(String text, int[] names) {
        for (String signs : new String[] {"|", "&", "<=>", "+-", "*/%"}) {
            int i = cut(text, signs);
            if (i < 0) continue;
            long a = value(text.substring(0, i), names);
            long b = value(text.substring(i + 1), names);
            switch (text.charAt(i)) {
                case '|': return a != 0 || b != 0 ? 1 : 0;
                case '&': return a != 0 && b != 0 ? 1 : 0;
                case '<': return a < b ? 1 : 0;
                case '=': return a == b ? 1 : 0;
                case '>': return a > b ? 1 : 0;
                case '+': return (int) (a + b);
                case '-': return (int) (a - b);
                case '*': return (int) (a * b);
                case '/': return b == 0 ? 0 : (int) (a / b);
                default: return b == 0 ? 0 : (int) (a % b);
            }
        }
        char first = text.charAt(0);
        if (first == '!') return value(text.substring(1), names) == 0 ? 1 : 0;
        if (first == '-') return -value(text.substring(1), names);
        if (first == '(') return value(text.substring(1, text.length() - 1), names);
        int name = "whmntp".indexOf(first);
        return name >= 0 ? names[name] : Integer.parseInt(text);
    }

    private static int byLines(String law, int[] names) {
        for (String line : law.split(";")) {
            String[] parts = line.split("\\?");
            if (parts.length == 1) return value(line, names);
            if (value(parts[0], names) != 0) return value(parts[1], names);
        }
        return 0;
    }

    int worth(int tree, int month, int high, int sitting, int one) {
        int weight = people.get(one).weight;
        if (law == null) return weight;
        int v = byLines(law, new int[] {weight, high, month, sitting, tree, one});
        return v < 0 ? 0 : v > 9 ? 9 : v;
    }

    /** The place of the first byte with which no text goes on; -1: it is a text. By a machine with a stack of its own. */
    static int fault(String text) {
        List<Character> open = new ArrayList<>();
        List<Boolean> compared = new ArrayList<>();
        compared.add(false);
        boolean asked = false;
        boolean wantsOperand = true;
        int digits = 0;
        for (int i = 0; i < text.length(); i++) {
            char c = text.charAt(i);
            if (wantsOperand) {
                if (c == '(' || c == '!' || c == '-') {
                    if (open.size() == 6) return i;
                    open.add(c);
                    if (c == '(') compared.add(false);
                    continue;
                }
                if ("whmntp".indexOf(c) >= 0) digits = 0;
                else if (c >= '0' && c <= '9') digits = 1;
                else return i;
                wantsOperand = false;
                close(open);
                continue;
            }
            if (c >= '0' && c <= '9') {
                if (digits == 0 || digits == 4) return i;
                digits++;
                continue;
            }
            digits = 0;
            if (c == ')') {
                if (open.isEmpty()) return i;
                open.remove(open.size() - 1);
                compared.remove(compared.size() - 1);
                close(open);
                continue;
            }
            wantsOperand = true;
            if (c == '|' || c == '&') {
                compared.set(compared.size() - 1, false);
            } else if (c == '<' || c == '=' || c == '>') {
                if (compared.get(compared.size() - 1)) return i;
                compared.set(compared.size() - 1, true);
            } else if (c == '?' || c == ';') {
                if (!open.isEmpty() || c == '?' && asked) return i;
                asked = c == '?';
                compared.set(0, false);
            } else if ("+-*/%".indexOf(c) < 0) {
                return i;
            }
        }
        return wantsOperand || !open.isEmpty() ? text.length() : -1;
    }

    private static void close(List<Character> open) {
        while (!open.isEmpty() && open.get(open.size() - 1) != '(') open.remove(open.size() - 1);
    }

    // ---- shades and votes

    boolean covers(Tree tree, int month, int high, int cell) {
        int rows = high * low[month] / 3;
        for (int up = 1; up <= rows; up++) {
            for (int aside = -tree.broad; aside <= tree.broad; aside++) {
                int y = tree.cell / 16 - up;
                int x = tree.cell % 16 + aside;
                if (x >= 0 && x <= 15 && y >= 0 && cell == 16 * y + x) return true;
            }
        }
        return false;
    }

    Set<Integer> sitters(int t, int month, int high) {
        Set<Integer> there = new TreeSet<>();
        for (int p = 0; p < people.size(); p++) {
            if (covers(trees.get(t), month, high, people.get(p).cell)) there.add(p);
        }
        return there;
    }

    Set<Integer> sitters(int t, int month) {
        return trees.get(t).stands ? sitters(t, month, trees.get(t).high) : new TreeSet<>();
    }

    boolean wishes(int p, int t) {
        return (people.get(p).wish >> t) % 2 == 1;
    }

    int sum(int t, int month, int high, Set<Integer> there, boolean yesAlone) {
        int sum = 0;
        for (int p : there) {
            if (!yesAlone || wishes(p, t)) sum += worth(t, month, high, there.size(), p);
        }
        return sum;
    }

    boolean falls(int t, int month, int high, Set<Integer> there) {
        return sum(t, month, high, there, true) > sum(t, month, high, there, false) / 2.0;
    }

    boolean falls(int t, int month, Set<Integer> there) {
        return trees.get(t).stands && falls(t, month, trees.get(t).high, there);
    }

    boolean falls(int t, int month) {
        return falls(t, month, sitters(t, month));
    }

    static int bits(Set<Integer> set) {
        int bits = 0;
        for (int one : set) bits += 1 << one;
        return bits;
    }

    static Set<Integer> set(int bits) {
        Set<Integer> set = new TreeSet<>();
        for (int one = 0; one < 32; one++) {
            if ((bits >> one) % 2 == 1) set.add(one);
        }
        return set;
    }

    int fallBits(int month) {
        int bits = 0;
        for (int t = 0; t < trees.size(); t++) {
            if (falls(t, month)) bits += 1 << t;
        }
        return bits;
    }

    // ---- games

    int turn(int t, int month) {
        Set<Integer> there = sitters(t, month);
        int best = 0;
        for (int who = 1; who < 1 << people.size(); who++) {
            boolean turned = falls(t, month, set(bits(there) ^ who)) != falls(t, month, there);
            if (turned && (best == 0 || Integer.bitCount(who) < Integer.bitCount(best))) best = who;
        }
        return best;
    }

    int chair(int t, int month) {
        Set<Integer> who = new TreeSet<>();
        for (int p : sitters(t, month)) {
            Set<Integer> others = sitters(t, month);
            others.remove(p);
            if (falls(t, month, others) != falls(t, month)) who.add(p);
        }
        return bits(who);
    }

    long[] power(int t, int month, int one) {
        Set<Integer> there = sitters(t, month);
        if (!there.contains(one)) return new long[] {0, 1};
        long ways = 0;
        long all = 0;
        for (int yes = 0; yes < 1 << people.size(); yes++) {
            Set<Integer> saying = set(yes);
            if (saying.contains(one) || !there.containsAll(saying)) continue;
            all++;
            if (carried(t, month, there, saying)) continue;
            saying.add(one);
            if (carried(t, month, there, saying)) ways++;
        }
        long g = gcd(ways, all);
        return new long[] {ways / g, all / g};
    }

    private boolean carried(int t, int month, Set<Integer> there, Set<Integer> saying) {
        int yes = 0;
        int all = 0;
        for (int p : there) {
            int worth = worth(t, month, trees.get(t).high, there.size(), p);
            all += worth;
            if (saying.contains(p)) yes += worth;
        }
        return yes * 2 > all;
    }

    private static long gcd(long a, long b) {
        return b == 0 ? a : gcd(b, a % b);
    }

    int lop(int t, int month, boolean grow) {
        Tree tree = trees.get(t);
        if (!tree.stands) return -2;
        for (int d = 0; d <= 9; d++) {
            int high = grow ? tree.high + d : tree.high - d;
            if (high >= 1 && high <= 9 && falls(t, month, high, sitters(t, month, high)) == grow) return d;
        }
        return -2;
    }

    boolean fallsByTurns(int t, int month, int set, int moves, boolean firstSide) {
        if (moves == 0) return falls(t, month, set(set));
        for (int p = 0; p <= people.size(); p++) {
            int next = p == people.size() ? set : set ^ 1 << p;
            if (fallsByTurns(t, month, next, moves - 1, !firstSide) == firstSide) return firstSide;
        }
        return !firstSide;
    }

    int bestMove(int t, int month, int moves) {
        int set = bits(sitters(t, month));
        boolean best = fallsByTurns(t, month, set, moves, true);
        for (int p = 0; p < people.size(); p++) {
            if (fallsByTurns(t, month, set ^ 1 << p, moves - 1, false) == best) return p;
        }
        return 10;
    }

    // ---- books, seats, years

    boolean so(int t, byte[] book, int two) {
        if (2 * two + 2 > book.length) return false;
        int month = book[2 * two];
        int fell = book[2 * two + 1];
        if (month < 0 || month > 11 || fell < 0 || fell > 1) return false;
        int high = trees.get(t).high;
        return falls(t, month, high, sitters(t, month, high)) == (fell == 1);
    }

    int judge(int t, byte[] book) {
        for (int two = 0; 2 * two < book.length; two++) {
            if (!so(t, book, two)) return two;
        }
        return -2;
    }

    int[] wishSets(int t, byte[] book) {
        int many = 0;
        int least = -2;
        int certain = -1;
        int[] wished = new int[people.size()];
        for (int p = 0; p < wished.length; p++) wished[p] = people.get(p).wish;
        for (int who = 0; who < 1 << people.size(); who++) {
            for (int p = 0; p < wished.length; p++) people.get(p).wish = (who >> p) % 2 == 1 ? 63 : 0;
            if (judge(t, book) != -2) continue;
            if (many == 0) least = who;
            many++;
            certain &= who;
        }
        for (int p = 0; p < wished.length; p++) people.get(p).wish = wished[p];
        return new int[] {many, least, many == 0 ? 0 : certain};
    }

    int[] save(int t, int one) {
        int was = people.get(one).cell;
        int best = -1;
        int most = -1;
        for (int cell = 0; cell < 256; cell++) {
            people.get(one).cell = cell;
            int months = 0;
            for (int month = 0; month < 12; month++) {
                if (!falls(t, month)) months++;
            }
            if (months > most) {
                most = months;
                best = cell;
            }
        }
        people.get(one).cell = was;
        return new int[] {best, most};
    }

    Set<Integer> cells(int t, int month) {
        Set<Integer> cells = new TreeSet<>();
        for (int cell = 0; cell < 256 && trees.get(t).stands; cell++) {
            if (covers(trees.get(t), month, trees.get(t).high, cell)) cells.add(cell);
        }
        return cells;
    }

    int drawn(int seed, int years, int clouds, int told) {
        int fell = 0;
        int stood = 0;
        int z = seed;
        for (int year = 0; year < years; year++) {
            Set<Integer> left = set(left(0, 0));
            for (int month = 0; month < 12; month++) {
                z = z * 1103515245 + 12345;
                if ((z >>> 8) % 12 < clouds) continue;
                Set<Integer> gone = set(fallBits(month));
                if (left.contains(told) && gone.contains(told)) fell++;
                left.removeAll(gone);
            }
            stood += left.size();
        }
        return told < 0 ? stood : fell;
    }

    int left(int month, int n) {
        Set<Integer> left = new TreeSet<>();
        for (int t = 0; t < trees.size(); t++) {
            boolean stays = trees.get(t).stands;
            for (int k = 0; k < n; k++) stays &= !falls(t, (month + k) % 12);
            if (stays) left.add(t);
        }
        return bits(left);
    }
}
