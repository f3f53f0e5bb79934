import java.util.ArrayList;
import java.util.List;

/** The document's voters as Java's own classes: what comes from above comes by Java's own calls. */
final class JavaVoters {
    private JavaVoters() {
    }

    interface Sits {
        int begin(int body);

        default int sits(int x) {
            return x + begin(1);
        }
    }

    interface Tells {
        int begin(int body);

        int votes(int x);

        int moves(int x);

        default int tells(int x) {
            begin(2);
            return votes(x) - moves(1);
        }
    }

    static class Voter implements Sits, Tells {
        private int kind;
        private int number;
        List<Integer> ran = new ArrayList<>();

        /** Notes that a body begins, and answers the voter's number. */
        @Override
        public int begin(int body) {
            ran.add(body);
            return number;
        }

        @Override
        public int votes(int x) {
            begin(10);
            return sits(x) * 2;
        }

        @Override
        public int moves(int x) {
            return x ^ begin(11);
        }
    }

    static class Aunt extends Voter {
        @Override
        public int sits(int x) {
            begin(20);
            return super.sits(x) + 3;
        }
    }

    static class Dog extends Voter {
        @Override
        public int votes(int x) {
            begin(30);
            return -super.votes(x);
        }
    }

    static class Asleep extends Dog {
        @Override
        public int moves(int x) {
            begin(40);
            return super.moves(x) * 3;
        }

        @Override
        public int votes(int x) {
            begin(41);
            return super.votes(x + 1);
        }
    }

    static class Parasol extends Aunt {
        @Override
        public int moves(int x) {
            begin(50);
            return super.moves(x) - sits(2);
        }
    }

    static class Cobbler extends Asleep {
        @Override
        public int tells(int x) {
            begin(60);
            return super.tells(x) ^ 5;
        }
    }

    static class Bird extends Voter {
        @Override
        public int sits(int x) {
            begin(70);
            return super.sits(x) * 2;
        }
    }

    static class Acorn extends Parasol {
        @Override
        public int votes(int x) {
            begin(80);
            return super.votes(x) + moves(2);
        }

        @Override
        public int tells(int x) {
            begin(81);
            return super.tells(x) - 1;
        }
    }

    static Voter of(int kind, int number) {
        Voter voter;
        switch (kind) {
            case 0: voter = new Voter(); break;
            case 1: voter = new Aunt(); break;
            case 2: voter = new Dog(); break;
            case 3: voter = new Asleep(); break;
            case 4: voter = new Parasol(); break;
            case 5: voter = new Cobbler(); break;
            case 6: voter = new Bird(); break;
            default: voter = new Acorn();
        }
        voter.kind = kind;
        voter.number = number;
        return voter;
    }

    /** What is taken for a voter of kind k: its kind. Java throws, if it is none. */
    static int as(int k, Object taken) {
        Voter voter;
        switch (k) {
            case 0: voter = (Voter) taken; break;
            case 1: voter = (Aunt) taken; break;
            case 2: voter = (Dog) taken; break;
            case 3: voter = (Asleep) taken; break;
            case 4: voter = (Parasol) taken; break;
            case 5: voter = (Cobbler) taken; break;
            case 6: voter = (Bird) taken; break;
            default: voter = (Acorn) taken;
        }
        return voter.kind;
    }
}
