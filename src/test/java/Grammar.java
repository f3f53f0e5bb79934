import java.util.ArrayList;
import java.util.HashMap;
import java.util.LinkedHashSet;
import java.util.List;
import java.util.Map;
import java.util.Set;

/**
 * The law's rules as the document tells them, and what texts go on by them: all beginnings of rules that a text may
 * be within are carried along, byte by byte. The value is worked out by climbing the signs that bind least first.
 */
final class Grammar {
    /** By name: what a part may consist of; a sign stands for itself, "E3" for E with three of ( ! - open. */
    private static final Map<String, List<String[]>> RULES = new HashMap<>();

    static {
        rule("TEXT", "LINE", "TEXT ; LINE");
        rule("LINE", "E0", "E0 ? E0");
        for (int open = 0; open <= 6; open++) {
            rule("E" + open, "A#", "E# | A#", open);
            rule("A" + open, "B#", "A# & B#", open);
            rule("B" + open, "S#", "S# < S#", open);
            rule("B" + open, "S# = S#", "S# > S#", open);
            rule("S" + open, "P#", "S# + P#", open);
            rule("S" + open, "S# - P#", null, open);
            rule("P" + open, "O#", "P# * O#", open);
            rule("P" + open, "P# / O#", "P# % O#", open);
            rule("O" + open, "NUMBER", "NAME");
            if (open == 6) continue;
            String deeper = "" + (open + 1);
            rule("O" + open, "! O" + deeper, "- O" + deeper, "( E" + deeper + " )");
        }
        rule("NUMBER", "DIGIT", "DIGIT DIGIT", "DIGIT DIGIT DIGIT", "DIGIT DIGIT DIGIT DIGIT");
        for (char digit = '0'; digit <= '9'; digit++) rule("DIGIT", "" + digit);
        for (char name : "whmntp".toCharArray()) rule("NAME", "" + name);
    }

    private record Begun(String part, String[] of, int dot, int from) {
        @Override
        public boolean equals(Object other) {
            return other instanceof Begun b && b.of == of && b.dot == dot && b.from == from;
        }

        @Override
        public int hashCode() {
            return System.identityHashCode(of) * 31 * 31 + dot * 31 + from;
        }
    }

    private Grammar() {
    }

    private static void rule(String part, String... ways) {
        for (String way : ways) RULES.computeIfAbsent(part, p -> new ArrayList<>()).add(way.split(" "));
    }

    private static void rule(String part, String one, String other, int open) {
        rule(part, one.replace("#", "" + open));
        if (other != null) rule(part, other.replace("#", "" + open));
    }

    /** The place of the first byte with which no text goes on, or the length; -1: it is a text. */
    static int fault(String text) {
        List<List<Begun>> behind = new ArrayList<>();
        Set<Begun> here = new LinkedHashSet<>();
        for (String[] way : RULES.get("TEXT")) here.add(new Begun("TEXT", way, 0, 0));
        for (int place = 0; ; place++) {
            List<Begun> all = complete(here, behind, place);
            if (all.isEmpty()) return place - 1;
            behind.add(all);
            if (place == text.length()) break;
            here = new LinkedHashSet<>();
            String sign = text.substring(place, place + 1);
            for (Begun b : all) {
                if (b.dot < b.of.length && b.of[b.dot].equals(sign)) here.add(new Begun(b.part, b.of, b.dot + 1, b.from));
            }
        }
        for (Begun b : behind.get(text.length())) {
            if (b.part.equals("TEXT") && b.dot == b.of.length && b.from == 0) return -1;
        }
        return text.length();
    }

    /** With those begun at a place, all that they lead to: the parts that come next, and what a part's end goes on. */
    private static List<Begun> complete(Set<Begun> here, List<List<Begun>> behind, int place) {
        List<Begun> all = new ArrayList<>(here);
        for (int k = 0; k < all.size(); k++) {
            Begun b = all.get(k);
            if (b.dot < b.of.length) {
                for (String[] way : RULES.getOrDefault(b.of[b.dot], List.of())) {
                    Begun next = new Begun(b.of[b.dot], way, 0, place);
                    if (here.add(next)) all.add(next);
                }
            } else {
                // No part is empty, so a part that ends here began at an earlier place.
                for (Begun outer : behind.get(b.from)) {
                    if (outer.dot == outer.of.length || !outer.of[outer.dot].equals(b.part)) continue;
                    Begun next = new Begun(outer.part, outer.of, outer.dot + 1, outer.from);
                    if (here.add(next)) all.add(next);
                }
            }
        }
        return all;
    }

    /** What a law's text gives. Names: w h m n t p. */
    static int value(String text, int[] names) {
        for (String line : text.split(";")) {
            int ask = line.indexOf('?');
            if (ask >= 0 && new Climber(line.substring(0, ask), names).climb(0) == 0) continue;
            return new Climber(line.substring(ask + 1), names).climb(0);
        }
        return 0;
    }

    private static final class Climber {
        private final String text;
        private final int[] names;
        private int place;

        Climber(String text, int[] names) {
            this.text = text;
            this.names = names;
        }

        private char next() {
            return place < text.length() ? text.charAt(place) : ' ';
        }

        private static int bond(char sign) {
            switch (sign) {
                case '|': return 1;
                case '&': return 2;
                case '<': case '=': case '>': return 3;
                case '+': case '-': return 4;
                case '*': case '/': case '%': return 5;
                default: return 0;
            }
        }

        int climb(int above) {
            int v = operand();
            while (bond(next()) > above) {
                char sign = next();
                place++;
                v = both(sign, v, climb(bond(sign)));
            }
            return v;
        }

        private int operand() {
            char sign = next();
            place++;
            if (sign == '!') return operand() == 0 ? 1 : 0;
            if (sign == '-') return -operand();
            if (sign == '(') {
                int v = climb(0);
                place++;
                return v;
            }
            if (!Character.isDigit(sign)) return names["whmntp".indexOf(sign)];
            int from = place - 1;
            while (Character.isDigit(next())) place++;
            return Integer.parseInt(text.substring(from, place));
        }

        private static int both(char sign, int a, int b) {
            if ((sign == '/' || sign == '%') && b == 0) return 0;
            switch (sign) {
                case '+': return a + b;
                case '-': return a - b;
                case '*': return a * b;
                case '/': return a / b;
                case '%': return a % b;
                case '|': return (a != 0) | (b != 0) ? 1 : 0;
                case '&': return (a != 0) & (b != 0) ? 1 : 0;
                case '<': return a < b ? 1 : 0;
                case '=': return a == b ? 1 : 0;
                default: return a > b ? 1 : 0;
            }
        }
    }
}
