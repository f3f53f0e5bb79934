/**
 * Trees that are felled by those who sit in their shade at noon.
 * The face tests what it is told and leaves the work to the classes inside.
 */
public final class ShadeVotes {
    public static final int BAD = -1, NOT = -2, FULL = -3, STATE = -5, VOID = -2000000000;

    private static final int NOTHING_THERE = -11, OTHER_KIND = -12, NO_PLACE = -13, SIZE_BELOW_0 = -14;
    private static final int TREES = 6, PEOPLE = 10, MONTHS = 12, SIDE = 16, CELLS = SIDE * SIDE;
    private static final int HIGHEST = 9, NOBODY = 10, SETS = 1 << PEOPLE;

    // The numbers of the land, as mend() and of() name them.
    private static final int CELL = 0, HIGH = 1, BROAD = 2, LOW = 3, SEAT = 4, WISH = 5, WEIGHT = 6, STANDS = 7;

    // What led() tells of.
    private static final int NOONS = 0, FELLED = 1, MOVES = 2, LOPPINGS = 3, MONTH = 4, LED = 5;

    private final Land land = new Land();
    private final LawText tape = new LawText();
    private final Law law = new Law();
    private final Ballot ballot = new Ballot(land, law);
    private final Thought thought = new Thought(land, ballot);
    // A row over all sets of people is large: both rows serve the games and the books by turns.
    private final int[] overSets = new int[SETS];
    private final int[] alsoOverSets = new int[SETS];
    private final Games games = new Games(land, ballot, overSets, alsoOverSets);
    private final Books books = new Books(land, ballot, overSets, alsoOverSets);
    private final Deeds deeds = new Deeds(land);
    private final Changes changes = new Changes(land);
    private final Voters voters = new Voters();
    private final Shelf[] shelves = {
        new Shelf(), new Shelf(), new Shelf(), new Shelf(), new Shelf(), new Shelf()
    };

    public ShadeVotes() {
    }

    // ---- trees, people

    public int tree(int cell, int high) {
        if (!land.fits(CELL, cell) || !land.fits(HIGH, high)) return BAD;
        return land.addTree(cell, high);
    }

    public int person(int cell, int wish) {
        if (!land.fits(SEAT, cell) || !land.fits(WISH, wish)) return BAD;
        return land.addPerson(cell, wish, 1);
    }

    public int people(int shelf, int i, int n) {
        Shelf from = shelfAt(shelf);
        if (from == null || !within(n, 1, PEOPLE)) return BAD;
        if (!from.isEmpty() && !from.isRowOf(Shelf.SHORTS)) return OTHER_KIND;
        int came = 0;
        for (int k = 0; k < n; k++) {
            if (!comesFrom(from, (long) i + 3 * k)) break;
            came++;
        }
        return came;
    }

    /** Whether a whole three stands there, is as said, and there is room for one more; at a place below 0 none stands. */
    private boolean comesFrom(Shelf from, long place) {
        if (!from.isRow() || place < 0 || place + 3 > from.size()) return false;
        int first = (int) place;
        int cell = (int) from.valueAt(first);
        int wish = (int) from.valueAt(first + 1);
        int weight = (int) from.valueAt(first + 2);
        if (!land.fits(SEAT, cell) || !land.fits(WISH, wish) || !land.fits(WEIGHT, weight)) return false;
        return land.addPerson(cell, wish, weight) != FULL;
    }

    public int mend(int number, int what, int v) {
        if (what > WEIGHT || !land.has(number, what) || !land.fits(what, v)) return BAD;
        int was = land.read(number, what);
        if (was != v) {
            land.write(number, what, v);
            changes.add(number, what, was, v);
        }
        return was;
    }

    public int of(int number, int what) {
        return land.has(number, what) ? land.read(number, what) : BAD;
    }

    public int feed(int letter) {
        return within(letter, 0, 255) ? tape.take(letter) : BAD;
    }

    public int law() {
        int fault = tape.findFault();
        if (fault == LawText.NO_FAULT) law.become(tape.code, tape.written);
        tape.clear();
        return fault == LawText.NO_FAULT ? 1 : -100 - fault;
    }

    // ---- noons in thought

    public int shade(int tm) {
        return isTreeMonth(tm) ? thought.sittersIn(tm / 100, tm % 100) : BAD;
    }

    public int votes(int tm, int what) {
        if (!isTreeMonth(tm) || !within(what, 0, 3)) return BAD;
        if (what == 3) return land.cellsOf(tm / 100, tm % 100);
        ballot.open(tm / 100, tm % 100);
        if (what == 2) return ballot.passes(ballot.sitters, ballot.wishers) ? 1 : 0;
        return ballot.sumOf(what == 0 ? ballot.wishers : ballot.sitters);
    }

    public int falls(int month) {
        if (!within(month, 0, MONTHS)) return BAD;
        return month == MONTHS ? thought.neverFalling() : thought.falling(month);
    }

    public int first(int tm) {
        return isTreeMonth(tm) ? thought.firstFall(tm / 100, tm % 100) : BAD;
    }

    public int left(int month, int n) {
        return isMonth(month) && within(n, 0, 99) ? thought.leftBehind(month, n) : BAD;
    }

    public int turn(int tm, int what) {
        if (!isTreeMonth(tm) || !within(what, 0, 1)) return BAD;
        int who = games.fewestToTurn(tm / 100, tm % 100);
        if (who == 0) return NOT;
        return what == 0 ? Integer.bitCount(who) : who;
    }

    public int chair(int tm) {
        return isTreeMonth(tm) ? games.hangsOn(tm / 100, tm % 100) : BAD;
    }

    public long power(int tm, int one, int part) {
        if (!isTreeMonth(tm) || !land.has(one, SEAT) || !within(part, 0, 1)) return Long.MIN_VALUE;
        return games.powerOf(tm / 100, tm % 100, one, part);
    }

    public int lop(int tm, int what) {
        if (!isTreeMonth(tm) || !within(what, 0, 1)) return BAD;
        return what == 0 ? games.lessHigh(tm / 100, tm % 100) : games.moreHigh(tm / 100, tm % 100);
    }

    public int byTurns(int tm, int nw) {
        if (!isTreeMonth(tm) || nw < 0) return BAD;
        if (!within(nw / 10, 1, 4) || nw % 10 > 1) return BAD;
        games.playTurns(tm / 100, tm % 100, nw / 10);
        return nw % 10 == 0 ? games.outcome : games.firstMove;
    }

    public int deepest(int tree, int what) {
        if (!isTree(tree) || !within(what, 0, 1)) return BAD;
        int month = thought.deepestMonth(tree);
        return what == 0 ? month : Integer.bitCount(thought.sittersIn(tree, month));
    }

    public int shadiest(int month, int what) {
        if (!isMonth(month) || !within(what, 0, 1)) return BAD;
        int who = thought.shadiestOne(month);
        if (who == NOT) return what == 0 ? NOT : 0;
        return what == 0 ? who : thought.shadesOver(who, month);
    }

    // ---- books, seats

    public int judge(int shelf, int tree) {
        Shelf book = shelfAt(shelf);
        if (book == null || !isTree(tree)) return BAD;
        return book.isRowOf(Shelf.BYTES) ? books.firstWrong(book, tree) : refusalOf(book);
    }

    public int wishes(int shelf, int tree, int what) {
        Shelf book = shelfAt(shelf);
        if (book == null || !isTree(tree) || !within(what, 0, 2)) return BAD;
        if (!book.isRowOf(Shelf.BYTES)) return refusalOf(book);
        books.findWishers(book, tree);
        if (what == 0) return books.howMany;
        if (books.howMany == 0) return what == 1 ? NOT : 0;
        return what == 1 ? books.least : books.certain;
    }

    public int save(int to, int what) {
        if (to < 0 || !isTree(to / 100) || !land.has(to % 100, SEAT) || !within(what, 0, 1)) return BAD;
        thought.findSeat(to / 100, to % 100);
        return what == 0 ? thought.bestSeat : thought.monthsSaved;
    }

    public int alike(int ab, int month) {
        if (ab < 0 || !isTree(ab / 10) || !isTree(ab % 10) || !isMonth(month)) return BAD;
        return thought.sameShade(ab / 10, ab % 10, month) ? 1 : 0;
    }

    public int drawn(int seed, int nc, int tree) {
        if (nc < 0 || !within(nc / 100, 1, 30) || !within(nc % 100, 0, 12)) return BAD;
        if (tree != -1 && !isTree(tree)) return BAD;
        return thought.drawYears(seed, nc / 100, nc % 100, tree);
    }

    // ---- in deed

    public int noon() {
        int felled = thought.falling(deeds.tell(MONTH));
        deeds.fell(felled);
        return felled;
    }

    public int sits(int one, int cell) {
        if (!land.has(one, SEAT) || !land.fits(SEAT, cell)) return BAD;
        return deeds.seat(one, cell);
    }

    public int lopped(int tree) {
        return isTree(tree) ? deeds.lopOne(tree) : BAD;
    }

    public int led(int what) {
        return within(what, 0, LED - 1) ? deeds.tell(what) : BAD;
    }

    public int image() {
        deeds.keepImage();
        return deeds.tell(NOONS);
    }

    public int back() {
        return deeds.layBack() ? deeds.tell(NOONS) : STATE;
    }

    public int undo() {
        return changes.takeBack() ? changes.done : STATE;
    }

    public int redo() {
        return changes.doAgain() ? changes.undone : STATE;
    }

    // ---- acts, shelves

    public int body(int kind) {
        return within(kind, 0, Voters.KINDS - 1) ? voters.add(kind) : BAD;
    }

    public int act(int body, int act, int x) {
        return voters.start(body, act, x);
    }

    public int trace(int i) {
        return within(i, 0, voters.tracesKept() - 1) ? voters.traceAt(i) : BAD;
    }

    public int keep(int shelf, int body) {
        Shelf to = shelfAt(shelf);
        if (to == null || !within(body, -1, voters.bodies - 1)) return BAD;
        to.holdVoter(body);
        return 1;
    }

    public int row(int shelf, int sort, int n) {
        Shelf to = shelfAt(shelf);
        if (to == null || !within(sort, Shelf.BYTES, Shelf.BOOLEANS) || n > Shelf.LONGEST) return BAD;
        if (n < 0) return SIZE_BELOW_0;
        to.holdRow(sort, n);
        return 1;
    }

    public int put(int shelf, int i, long v) {
        Shelf to = shelfAt(shelf);
        if (to == null) return BAD;
        if (!to.isRow()) return refusalOf(to);
        if (!within(i, 0, to.size() - 1)) return NO_PLACE;
        to.write(i, v);
        return 1;
    }

    public long element(int shelf, int i) {
        Shelf from = shelfAt(shelf);
        if (from == null || !from.isRow() || !within(i, 0, from.size() - 1)) return Long.MIN_VALUE;
        return from.valueAt(i);
    }

    public int shift(int shelf, int i, int other, int j, int n) {
        Shelf from = shelfAt(shelf);
        Shelf to = shelfAt(other);
        if (from == null || to == null) return BAD;
        if (from.isEmpty() || to.isEmpty()) return NOTHING_THERE;
        if (!from.isRow() || !to.isRowOf(from.sort)) return OTHER_KIND;
        return to.takeFrom(from, i, j, n) ? n : NO_PLACE;
    }

    public int taken(int shelf, int k) {
        Shelf from = shelfAt(shelf);
        if (from == null || !within(k, 0, Voters.KINDS - 1)) return BAD;
        if (from.isEmpty()) return NOTHING_THERE;
        int kind = voters.kindOf(from.voter);
        return !from.isRow() && voters.isUnder(kind, k) ? kind : OTHER_KIND;
    }

    public int count(int what) {
        switch (what) {
            case 0: return land.trees;
            case 1: return land.people;
            case 2: return tape.fed;
            case 3: return changes.done;
            case 4: return voters.bodies;
            case 5: return voters.ran;
            default: return BAD;
        }
    }

    // ---- what the face and the classes inside share

    private boolean isTree(int tree) {
        return land.has(tree, CELL);
    }

    private boolean isMonth(int month) {
        return within(month, 0, MONTHS - 1);
    }

    private boolean isTreeMonth(int tm) {
        return tm >= 0 && isTree(tm / 100) && isMonth(tm % 100);
    }

    private Shelf shelfAt(int i) {
        return i >= 0 && i < shelves.length ? shelves[i] : null;
    }

    /** Why a shelf does not serve, which holds something else than is wanted. */
    private static int refusalOf(Shelf shelf) {
        return shelf.isEmpty() ? NOTHING_THERE : OTHER_KIND;
    }

    private static boolean within(int v, int least, int most) {
        return v >= least && v <= most;
    }

    private static boolean holds(int set, int one) {
        return (set >>> one & 1) != 0;
    }

    /** An element; 0 for a place that is not there, so that no index can throw. */
    private static int at(int[] row, int i) {
        return i >= 0 && i < row.length ? row[i] : 0;
    }

    private static void lay(int[] row, int i, int v) {
        if (i >= 0 && i < row.length) row[i] = v;
    }

    /** Trees, people, how low the sun is: numbers by what they are, and whose. */
    private static final class Land {
        private static final int[] LOW_AT_FIRST = {9, 8, 6, 4, 3, 2, 2, 3, 4, 6, 8, 9};
        private static final int[] LEAST = {0, 1, 0, 0, 0, 0, 0};
        private static final int[] MOST = {CELLS - 1, HIGHEST, 3, 9, CELLS - 1, 63, 3};

        private final int[] numbers = new int[(STANDS + 1) * MONTHS];
        private int trees;
        private int people;

        Land() {
            for (int month = 0; month < MONTHS; month++) write(month, LOW, at(LOW_AT_FIRST, month));
        }

        /** How many have a number of this sort. */
        private int owners(int what) {
            switch (what) {
                case CELL: case HIGH: case BROAD: case STANDS: return trees;
                case LOW: return MONTHS;
                case SEAT: case WISH: case WEIGHT: return people;
                default: return 0;
            }
        }

        boolean has(int number, int what) {
            return number >= 0 && number < owners(what);
        }

        boolean fits(int what, int v) {
            return within(what, CELL, WEIGHT) && within(v, at(LEAST, what), at(MOST, what));
        }

        int read(int number, int what) {
            int place = what * MONTHS + number;
            return place >= 0 && place < numbers.length ? numbers[place] : 0;
        }

        void write(int number, int what, int v) {
            lay(numbers, what * MONTHS + number, v);
        }

        int addTree(int cell, int high) {
            if (trees >= TREES) return FULL;
            write(trees, CELL, cell);
            write(trees, HIGH, high);
            write(trees, BROAD, 1);
            write(trees, STANDS, 1);
            return trees++;
        }

        int addPerson(int cell, int wish, int weight) {
            if (people >= PEOPLE) return FULL;
            write(people, SEAT, cell);
            write(people, WISH, wish);
            write(people, WEIGHT, weight);
            return people++;
        }

        boolean stands(int tree) {
            return read(tree, STANDS) == 1;
        }

        /** Whether a cell lies above a tree's foot, within so many rows and so far aside. */
        private static boolean lies(int cell, int foot, int rows, int broad) {
            int up = foot / SIDE - cell / SIDE;
            int aside = Math.abs(foot % SIDE - cell % SIDE);
            return up >= 1 && up <= rows && aside <= broad;
        }

        /** Whether the tree's shade falls on a cell. */
        boolean shades(int tree, int month, int cell) {
            int rows = read(tree, HIGH) * read(month, LOW) / 3;
            return stands(tree) && lies(cell, read(tree, CELL), rows, read(tree, BROAD));
        }

        /** Who sits where the shade falls, if the tree stands and is as high as that. */
        int coveredBy(int tree, int month, int high) {
            int foot = read(tree, CELL);
            int rows = high * read(month, LOW) / 3;
            int broad = read(tree, BROAD);
            int who = 0;
            for (int one = 0; one < people; one++) {
                if (lies(read(one, SEAT), foot, rows, broad)) who |= 1 << one;
            }
            return who;
        }

        int wishersOf(int tree) {
            int who = 0;
            for (int one = 0; one < people; one++) {
                if (holds(read(one, WISH), tree)) who |= 1 << one;
            }
            return who;
        }

        int cellsOf(int tree, int month) {
            if (!stands(tree)) return 0;
            int foot = read(tree, CELL);
            int broad = read(tree, BROAD);
            int rows = Math.min(read(tree, HIGH) * read(month, LOW) / 3, foot / SIDE);
            int left = Math.max(foot % SIDE - broad, 0);
            int right = Math.min(foot % SIDE + broad, SIDE - 1);
            return rows * (right - left + 1);
        }
    }

    /** The tape, and the reading of it as a text: what it says comes out as code, operands first. */
    private static final class LawText {
        static final int NO_FAULT = -1, NUMBER = 1000, NEGATE = 256, TAPE = 120;
        private static final int OPEN_AT_ONCE = 6, DIGITS = 4, NO_BYTE = -1;
        private static final int COMPARE = 2, OPERAND = 5, NO_LEVEL = -1;

        private final int[] bytes = new int[TAPE];
        // Each byte gives at most one sign of code, the end of the last line one more.
        private final int[] code = new int[TAPE + 1];
        private int fed;
        private int place;
        private int written;

        int take(int letter) {
            if (fed >= TAPE) return FULL;
            lay(bytes, fed, letter);
            fed++;
            return fed;
        }

        void clear() {
            fed = 0;
        }

        int findFault() {
            place = 0;
            written = 0;
            for (int lines = 0; lines <= TAPE; lines++) {
                if (!readLine()) return place;
                if (place >= fed) return NO_FAULT;
                if (next() != ';') return place;
                place++;
            }
            return place;
        }

        private int next() {
            return place < fed ? at(bytes, place) : NO_BYTE;
        }

        private void emit(int sign) {
            lay(code, written, sign);
            written++;
        }

        private boolean readLine() {
            if (!readChain(0, 0)) return false;
            if (next() == '?') {
                place++;
                emit('?');
                if (!readChain(0, 0)) return false;
            }
            emit(';');
            return true;
        }

        private static int levelOf(int sign) {
            switch (sign) {
                case '|': return 0;
                case '&': return 1;
                case '<': case '=': case '>': return COMPARE;
                case '+': case '-': return 3;
                case '*': case '/': case '%': return 4;
                default: return NO_LEVEL;
            }
        }

        /** E, A, B, S and P of the document are the levels 0 to 4: parts of the next level, and signs between. */
        private boolean readChain(int level, int open) {
            if (level >= OPERAND) return readOperand(open);
            if (!readChain(level + 1, open)) return false;
            for (int signs = 0; signs < TAPE; signs++) {
                int sign = next();
                if (levelOf(sign) != level) return true;
                place++;
                if (!readChain(level + 1, open)) return false;
                emit(sign);
                if (level == COMPARE) return true;
            }
            return true;
        }

        private boolean readOperand(int open) {
            int sign = next();
            if (within(sign, '0', '9')) return readNumber();
            if (isName(sign)) {
                place++;
                emit(sign);
                return true;
            }
            if (open >= OPEN_AT_ONCE) return false;
            if (sign == '!' || sign == '-') {
                place++;
                if (!readOperand(open + 1)) return false;
                emit(sign == '!' ? '!' : NEGATE);
                return true;
            }
            if (sign != '(') return false;
            place++;
            if (!readChain(0, open + 1) || next() != ')') return false;
            place++;
            return true;
        }

        private boolean readNumber() {
            int value = 0;
            for (int digits = 0; digits < DIGITS && within(next(), '0', '9'); digits++) {
                value = value * 10 + next() - '0';
                place++;
            }
            emit(NUMBER + value);
            return true;
        }

        private static boolean isName(int sign) {
            switch (sign) {
                case 'w': case 'h': case 'm': case 'n': case 't': case 'p': return true;
                default: return false;
            }
        }
    }

    /** The law: code that a text gave, and what its names mean for the vote that is weighed. */
    private static final class Law {
        private final int[] code = new int[LawText.TAPE + 1];
        private final int[] stack = new int[LawText.TAPE + 1];
        private int length;
        private int weight;
        private int high;
        private int month;
        private int sitting;
        private int tree;
        private int voter;

        void become(int[] text, int signs) {
            length = Math.min(signs, code.length);
            for (int i = 0; i < length; i++) lay(code, i, at(text, i));
        }

        void nameTree(int theTree, int theMonth, int itsHigh) {
            tree = theTree;
            month = theMonth;
            high = itsHigh;
        }

        void nameVoter(int who, int hisWeight, int howManySit) {
            voter = who;
            weight = hisWeight;
            sitting = howManySit;
        }

        int value() {
            if (length == 0) return weight;
            int top = 0;
            boolean skipping = false;
            for (int i = 0; i < length; i++) {
                int sign = at(code, i);
                if (skipping) {
                    skipping = sign != ';';
                } else if (sign == ';') {
                    return at(stack, top - 1);
                } else if (sign == '?') {
                    top--;
                    skipping = at(stack, top) == 0;
                } else if (sign == '!' || sign == LawText.NEGATE) {
                    int v = at(stack, top - 1);
                    lay(stack, top - 1, sign == LawText.NEGATE ? -v : v == 0 ? 1 : 0);
                } else if (LawText.levelOf(sign) >= 0) {
                    top--;
                    lay(stack, top - 1, ofTwo(sign, at(stack, top - 1), at(stack, top)));
                } else {
                    lay(stack, top, operand(sign));
                    top++;
                }
            }
            return 0;
        }

        private int operand(int sign) {
            switch (sign) {
                case 'w': return weight;
                case 'h': return high;
                case 'm': return month;
                case 'n': return sitting;
                case 't': return tree;
                case 'p': return voter;
                default: return sign - LawText.NUMBER;
            }
        }

        private static int ofTwo(int sign, int a, int b) {
            switch (sign) {
                case '|': return a != 0 || b != 0 ? 1 : 0;
                case '&': return a != 0 && b != 0 ? 1 : 0;
                case '<': return a < b ? 1 : 0;
                case '=': return a == b ? 1 : 0;
                case '>': return a > b ? 1 : 0;
                case '+': return a + b;
                case '-': return a - b;
                case '*': return a * b;
                case '/': return b == 0 ? 0 : a / b;
                default: return b == 0 ? 0 : a % b;
            }
        }
    }

    /** The vote on one tree in one month: what each there counts, whoever is there. */
    private static final class Ballot {
        private static final int MOST_WORTH = 9;

        private final Land land;
        private final Law law;
        // By how many sit there, then who: the law may weigh by both. Worked out when first asked for.
        private final int[] worths = new int[(PEOPLE + 1) * PEOPLE];
        private final int[] known = new int[PEOPLE + 1];
        private boolean standing;
        private int sitters;
        private int wishers;

        Ballot(Land land, Law law) {
            this.land = land;
            this.law = law;
        }

        void open(int tree, int month) {
            openAsIf(tree, month, land.read(tree, HIGH));
            if (!land.stands(tree)) {
                standing = false;
                sitters = 0;
            }
        }

        /** As if the tree stood, and were as high as that. */
        void openAsIf(int tree, int month, int high) {
            law.nameTree(tree, month, high);
            for (int n = 0; n < known.length; n++) known[n] = 0;
            standing = true;
            sitters = land.coveredBy(tree, month, high);
            wishers = land.wishersOf(tree);
        }

        /** What one counts, if n sit there. */
        int worthOf(int one, int n) {
            int place = n * PEOPLE + one;
            if (!holds(at(known, n), one)) {
                law.nameVoter(one, land.read(one, WEIGHT), n);
                lay(worths, place, Math.max(0, Math.min(MOST_WORTH, law.value())));
                lay(known, n, at(known, n) | 1 << one);
            }
            return at(worths, place);
        }

        /** What those of a set count who sit there now. */
        int sumOf(int set) {
            int n = Integer.bitCount(sitters);
            int sum = 0;
            for (int one = 0; one < land.people; one++) {
                if (holds(set & sitters, one)) sum += worthOf(one, n);
            }
            return sum;
        }

        /** Whether the tree falls, if those are there and those wish it. */
        boolean passes(int there, int wishing) {
            if (!standing) return false;
            int n = Integer.bitCount(there);
            int lead = 0;
            for (int one = 0; one < land.people; one++) {
                if (!holds(there, one)) continue;
                int worth = worthOf(one, n);
                lead += holds(wishing, one) ? worth : -worth;
            }
            return lead > 0;
        }

        /** For each set of people, what those of it count who sit there now. */
        void sumSets(int[] sums) {
            int n = Integer.bitCount(sitters);
            int filled = 1;
            lay(sums, 0, 0);
            for (int one = 0; one < land.people; one++) {
                int worth = holds(sitters, one) ? worthOf(one, n) : 0;
                for (int set = 0; set < filled; set++) lay(sums, filled + set, at(sums, set) + worth);
                filled += filled;
            }
        }
    }

    /** Noons in thought: shades, falls, months, years, seats. */
    private static final class Thought {
        private static final int ALL_MONTHS = (1 << MONTHS) - 1;

        private final Land land;
        private final Ballot ballot;
        private final int[] fallingIn = new int[MONTHS];
        private int bestSeat;
        private int monthsSaved;

        Thought(Land land, Ballot ballot) {
            this.land = land;
            this.ballot = ballot;
        }

        int sittersIn(int tree, int month) {
            return land.stands(tree) ? land.coveredBy(tree, month, land.read(tree, HIGH)) : 0;
        }

        private boolean fallsIn(int tree, int month) {
            ballot.open(tree, month);
            return ballot.passes(ballot.sitters, ballot.wishers);
        }

        int falling(int month) {
            int bits = 0;
            for (int tree = 0; tree < land.trees; tree++) {
                if (fallsIn(tree, month)) bits |= 1 << tree;
            }
            return bits;
        }

        int neverFalling() {
            int bits = 0;
            for (int tree = 0; tree < land.trees; tree++) {
                if (firstFall(tree, 0) == NOT) bits |= 1 << tree;
            }
            return bits;
        }

        int firstFall(int tree, int from) {
            for (int k = 0; k < MONTHS; k++) {
                int month = (from + k) % MONTHS;
                if (fallsIn(tree, month)) return month;
            }
            return NOT;
        }

        private int standing() {
            int bits = 0;
            for (int tree = 0; tree < land.trees; tree++) {
                if (land.stands(tree)) bits |= 1 << tree;
            }
            return bits;
        }

        int leftBehind(int month, int n) {
            int left = standing();
            // No tree's vote hangs on another tree: behind one round of the year nothing more falls.
            int noons = Math.min(n, MONTHS);
            for (int k = 0; k < noons; k++) left &= ~falling((month + k) % MONTHS);
            return left;
        }

        int deepestMonth(int tree) {
            int best = 0;
            int most = 0;
            for (int month = 0; month < MONTHS; month++) {
                int here = Integer.bitCount(sittersIn(tree, month));
                if (here > most) {
                    most = here;
                    best = month;
                }
            }
            return best;
        }

        int shadesOver(int one, int month) {
            int shades = 0;
            for (int tree = 0; tree < land.trees; tree++) {
                if (land.shades(tree, month, land.read(one, SEAT))) shades++;
            }
            return shades;
        }

        int shadiestOne(int month) {
            int best = NOT;
            int most = 0;
            for (int one = 0; one < land.people; one++) {
                int shades = shadesOver(one, month);
                if (shades > most) {
                    most = shades;
                    best = one;
                }
            }
            return best;
        }

        boolean sameShade(int a, int b, int month) {
            for (int cell = 0; cell < CELLS; cell++) {
                if (land.shades(a, month, cell) != land.shades(b, month, cell)) return false;
            }
            return true;
        }

        /** Finds the seat of one by which the tree stands in most months. */
        void findSeat(int tree, int one) {
            int savedInside = 0;
            int savedOutside = 0;
            for (int month = 0; month < MONTHS; month++) {
                ballot.open(tree, month);
                int others = ballot.sitters & ~(1 << one);
                if (!ballot.passes(others | 1 << one, ballot.wishers)) savedInside |= 1 << month;
                if (!ballot.passes(others, ballot.wishers)) savedOutside |= 1 << month;
            }
            bestSeat = 0;
            monthsSaved = -1;
            for (int cell = 0; cell < CELLS; cell++) {
                int inside = monthsOver(tree, cell);
                int saved = Integer.bitCount(inside & savedInside | ~inside & savedOutside & ALL_MONTHS);
                if (saved > monthsSaved) {
                    monthsSaved = saved;
                    bestSeat = cell;
                }
            }
        }

        /** The months (bits) in which the shade falls on a cell. */
        private int monthsOver(int tree, int cell) {
            int bits = 0;
            for (int month = 0; month < MONTHS; month++) {
                if (land.shades(tree, month, cell)) bits |= 1 << month;
            }
            return bits;
        }

        /** How often a tree falls in the years; of tree -1: how many trees stand at their ends. */
        int drawYears(int seed, int years, int clouds, int tree) {
            for (int month = 0; month < MONTHS; month++) lay(fallingIn, month, falling(month));
            int z = seed;
            int fell = 0;
            int stood = 0;
            for (int year = 0; year < years; year++) {
                int left = standing();
                for (int month = 0; month < MONTHS; month++) {
                    z = z * 1103515245 + 12345;
                    if ((z >>> 8) % 12 < clouds) continue;
                    int gone = left & at(fallingIn, month);
                    if (tree >= 0 && holds(gone, tree)) fell++;
                    left &= ~gone;
                }
                stood += Integer.bitCount(left);
            }
            return tree >= 0 ? fell : stood;
        }
    }

    /** What would be, if people came, went or spoke otherwise, or a tree were of another height. */
    private static final class Games {
        private final Land land;
        private final Ballot ballot;
        private final int[] behind;
        private final int[] ahead;
        private int outcome;
        private int firstMove;

        Games(Land land, Ballot ballot, int[] behind, int[] ahead) {
            this.land = land;
            this.ballot = ballot;
            this.behind = behind;
            this.ahead = ahead;
        }

        /** The fewest (bits) whose change turns the vote; 0: none can. */
        int fewestToTurn(int tree, int month) {
            ballot.open(tree, month);
            int there = ballot.sitters;
            int wishers = ballot.wishers;
            boolean now = ballot.passes(there, wishers);
            int sets = 1 << land.people;
            for (int many = 1; many <= land.people; many++) {
                for (int set = 1; set < sets; set++) {
                    if (Integer.bitCount(set) == many && ballot.passes(there ^ set, wishers) != now) return set;
                }
            }
            return 0;
        }

        int hangsOn(int tree, int month) {
            ballot.open(tree, month);
            int there = ballot.sitters;
            boolean now = ballot.passes(there, ballot.wishers);
            int who = 0;
            for (int one = 0; one < land.people; one++) {
                if (holds(there, one) && ballot.passes(there & ~(1 << one), ballot.wishers) != now) who |= 1 << one;
            }
            return who;
        }

        /** Above the line (part 0) or below it: the ways in which one's word decides, of all. */
        int powerOf(int tree, int month, int one, int part) {
            ballot.open(tree, month);
            if (!holds(ballot.sitters, one)) return part;
            int others = ballot.sitters & ~(1 << one);
            int above = waysToDecide(one, others);
            int below = 1 << Integer.bitCount(others);
            // All ways are a power of 2: halving is all that lowers the terms.
            while (below > 1 && above % 2 == 0) {
                above /= 2;
                below /= 2;
            }
            return part == 0 ? above : below;
        }

        private int waysToDecide(int one, int others) {
            int[] sums = behind;
            ballot.sumSets(sums);
            int all = ballot.sumOf(ballot.sitters);
            int sets = 1 << land.people;
            int ways = 0;
            for (int yes = 0; yes < sets; yes++) {
                if ((yes & ~others) != 0) continue;
                boolean without = 2 * at(sums, yes) > all;
                boolean with = 2 * at(sums, yes | 1 << one) > all;
                if (with != without) ways++;
            }
            return ways;
        }

        int lessHigh(int tree, int month) {
            int high = land.read(tree, HIGH);
            for (int less = 0; less < high && land.stands(tree); less++) {
                if (!fallsAt(tree, month, high - less)) return less;
            }
            return NOT;
        }

        int moreHigh(int tree, int month) {
            int high = land.read(tree, HIGH);
            for (int more = 0; high + more <= HIGHEST && land.stands(tree); more++) {
                if (fallsAt(tree, month, high + more)) return more;
            }
            return NOT;
        }

        private boolean fallsAt(int tree, int month, int high) {
            ballot.openAsIf(tree, month, high);
            return ballot.passes(ballot.sitters, ballot.wishers);
        }

        /** Plays back from the end: what comes of each set that the moves can lead to. */
        void playTurns(int tree, int month, int moves) {
            ballot.open(tree, month);
            int start = ballot.sitters;
            int sets = 1 << land.people;
            int[] ends = behind;
            int[] starts = ahead;
            for (int set = 0; set < sets; set++) {
                if (Integer.bitCount(set ^ start) <= moves) lay(ends, set, ballot.passes(set, ballot.wishers) ? 1 : 0);
            }
            for (int move = moves - 1; move > 0; move--) {
                for (int set = 0; set < sets; set++) {
                    if (Integer.bitCount(set ^ start) <= move) lay(starts, set, bestOf(ends, set, move % 2 == 0 ? 1 : 0));
                }
                int[] done = ends;
                ends = starts;
                starts = done;
            }
            outcome = bestOf(ends, start, 1);
            firstMove = leastMove(ends, start, outcome);
        }

        /** What comes of a set, if the one who moves wants that. */
        private int bestOf(int[] ends, int set, int wanted) {
            if (at(ends, set) == wanted) return wanted;
            for (int one = 0; one < land.people; one++) {
                if (at(ends, set ^ 1 << one) == wanted) return wanted;
            }
            return 1 - wanted;
        }

        private int leastMove(int[] ends, int set, int reached) {
            for (int one = 0; one < land.people; one++) {
                if (at(ends, set ^ 1 << one) == reached) return one;
            }
            return NOBODY;
        }
    }

    /** Books on a tree: by twos a month, and whether it fell. */
    private static final class Books {
        private final Land land;
        private final Ballot ballot;
        private final int[] sums;
        private final int[] ruledOut;
        private int howMany;
        private int least;
        private int certain;

        Books(Land land, Ballot ballot, int[] sums, int[] ruledOut) {
            this.land = land;
            this.ballot = ballot;
            this.sums = sums;
            this.ruledOut = ruledOut;
        }

        private static int twosOf(Shelf book) {
            return (book.size() + 1) / 2;
        }

        /** Whether both bytes of a two are there and as said. */
        private static boolean isWellSaid(Shelf book, int two) {
            if (2 * two + 1 >= book.size()) return false;
            long month = book.valueAt(2 * two);
            long fell = book.valueAt(2 * two + 1);
            return month >= 0 && month < MONTHS && (fell == 0 || fell == 1);
        }

        int firstWrong(Shelf book, int tree) {
            int twos = twosOf(book);
            for (int two = 0; two < twos; two++) {
                if (!isWellSaid(book, two)) return two;
                // Each as if it stood till then: that it is felled by now does not matter.
                ballot.openAsIf(tree, (int) book.valueAt(2 * two), land.read(tree, HIGH));
                boolean falls = ballot.passes(ballot.sitters, ballot.wishers);
                if (falls != (book.valueAt(2 * two + 1) == 1)) return two;
            }
            return NOT;
        }

        void findWishers(Shelf book, int tree) {
            howMany = 0;
            least = 0;
            certain = 0;
            int fellIn = 0;
            int stoodIn = 0;
            int twos = twosOf(book);
            for (int two = 0; two < twos; two++) {
                if (!isWellSaid(book, two)) return;
                int month = 1 << (int) book.valueAt(2 * two);
                if (book.valueAt(2 * two + 1) == 1) fellIn |= month;
                else stoodIn |= month;
            }
            if ((fellIn & stoodIn) != 0) return;
            ruleOut(tree, fellIn, stoodIn);
            gather();
        }

        /** Marks the sets of wishers by which a month would have ended otherwise. */
        private void ruleOut(int tree, int fellIn, int stoodIn) {
            int sets = 1 << land.people;
            for (int set = 0; set < sets; set++) lay(ruledOut, set, 0);
            for (int month = 0; month < MONTHS; month++) {
                if (!holds(fellIn | stoodIn, month)) continue;
                ballot.openAsIf(tree, month, land.read(tree, HIGH));
                ballot.sumSets(sums);
                int all = ballot.sumOf(ballot.sitters);
                for (int set = 0; set < sets; set++) {
                    if (2 * at(sums, set) > all != holds(fellIn, month)) lay(ruledOut, set, 1);
                }
            }
        }

        private void gather() {
            int sets = 1 << land.people;
            certain = sets - 1;
            for (int set = 0; set < sets; set++) {
                if (at(ruledOut, set) == 1) continue;
                if (howMany == 0) least = set;
                howMany++;
                certain &= set;
            }
        }
    }

    /** Noons, moves and loppings in deed, what is led of them, and the image. */
    private static final class Deeds {
        private final Land land;
        private final int[] led = new int[LED];
        private final int[] ledThen = new int[LED];
        private final int[] stoodThen = new int[TREES];
        private final int[] highThen = new int[TREES];
        private final int[] seatsThen = new int[PEOPLE];
        private int treesThen;
        private int peopleThen;
        private boolean kept;

        Deeds(Land land) {
            this.land = land;
        }

        int tell(int what) {
            return at(led, what);
        }

        private void countOn(int what, int more) {
            lay(led, what, at(led, what) + more);
        }

        /** A noon by which those are felled. */
        void fell(int bits) {
            for (int tree = 0; tree < land.trees; tree++) {
                if (holds(bits, tree)) land.write(tree, STANDS, 0);
            }
            countOn(FELLED, Integer.bitCount(bits));
            countOn(NOONS, 1);
            lay(led, MONTH, (at(led, MONTH) + 1) % MONTHS);
        }

        int seat(int one, int cell) {
            int was = land.read(one, SEAT);
            land.write(one, SEAT, cell);
            countOn(MOVES, 1);
            return was;
        }

        int lopOne(int tree) {
            int high = land.read(tree, HIGH) - 1;
            if (high < 1 || !land.stands(tree)) return STATE;
            land.write(tree, HIGH, high);
            countOn(LOPPINGS, 1);
            return high;
        }

        void keepImage() {
            kept = true;
            treesThen = land.trees;
            peopleThen = land.people;
            for (int tree = 0; tree < treesThen; tree++) {
                lay(stoodThen, tree, land.read(tree, STANDS));
                lay(highThen, tree, land.read(tree, HIGH));
            }
            for (int one = 0; one < peopleThen; one++) lay(seatsThen, one, land.read(one, SEAT));
            for (int what = 0; what < LED; what++) lay(ledThen, what, at(led, what));
        }

        boolean layBack() {
            if (!kept) return false;
            for (int tree = 0; tree < land.trees; tree++) {
                boolean came = tree >= treesThen;
                land.write(tree, STANDS, came ? 1 : at(stoodThen, tree));
                if (!came) land.write(tree, HIGH, at(highThen, tree));
            }
            for (int one = 0; one < peopleThen; one++) land.write(one, SEAT, at(seatsThen, one));
            for (int what = 0; what < LED; what++) lay(led, what, at(ledThen, what));
            return true;
        }
    }

    /** What mend() changed: a ring of the latest, those done ahead of those undone. */
    private static final class Changes {
        private static final int KEPT = 40;

        private final Land land;
        private final int[] numbers = new int[KEPT];
        private final int[] whats = new int[KEPT];
        private final int[] before = new int[KEPT];
        private final int[] after = new int[KEPT];
        private int oldest;
        private int done;
        private int undone;

        Changes(Land land) {
            this.land = land;
        }

        private int placeOf(int change) {
            return (oldest + change) % KEPT;
        }

        void add(int number, int what, int was, int v) {
            undone = 0;
            if (done == KEPT) {
                oldest = placeOf(1);
                done--;
            }
            int place = placeOf(done);
            lay(numbers, place, number);
            lay(whats, place, what);
            lay(before, place, was);
            lay(after, place, v);
            done++;
        }

        boolean takeBack() {
            if (done == 0) return false;
            done--;
            undone++;
            int place = placeOf(done);
            land.write(at(numbers, place), at(whats, place), at(before, place));
            return true;
        }

        boolean doAgain() {
            if (undone == 0) return false;
            int place = placeOf(done);
            done++;
            undone--;
            land.write(at(numbers, place), at(whats, place), at(after, place));
            return true;
        }
    }

    /** Voters whose acts come from above: which body a kind has of its own, and which kind is above. */
    private static final class Voters {
        static final int KINDS = 8;
        private static final int BODIES = 50, TRACES = 24, ACTS = 4, DEEPEST = 40;
        private static final int SITS = 0, VOTES = 1, MOVES = 2, TELLS = 3;
        private static final int VOTER = 0, NO_KIND = -1;
        private static final int[] ABOVE = {NO_KIND, 0, 0, 2, 1, 3, 0, 4};
        // By kind, then act; 0: no body of its own. The bodies 1 and 2 come to the voter from interfaces.
        private static final int[] OWN = {
            1, 10, 11, 2,
            20, 0, 0, 0,
            0, 30, 0, 0,
            0, 41, 40, 0,
            0, 0, 50, 0,
            0, 0, 0, 60,
            70, 0, 0, 0,
            0, 80, 0, 81
        };

        private final int[] kinds = new int[BODIES];
        private final int[] traces = new int[TRACES];
        private int bodies;
        private int ran;

        int add(int kind) {
            if (bodies >= BODIES) return FULL;
            lay(kinds, bodies, kind);
            return bodies++;
        }

        int kindOf(int body) {
            return at(kinds, body);
        }

        boolean isUnder(int kind, int top) {
            int here = kind;
            for (int k = 0; k < KINDS && here != NO_KIND; k++) {
                if (here == top) return true;
                here = at(ABOVE, here);
            }
            return false;
        }

        int tracesKept() {
            return Math.min(ran, TRACES);
        }

        int traceAt(int i) {
            return at(traces, i);
        }

        int start(int body, int act, int x) {
            ran = 0;
            if (!within(body, 0, bodies - 1) || !within(act, 0, ACTS - 1)) return 0;
            return perform(body, kindOf(body), act, x, 0);
        }

        /** The kind from which an act's body comes, from a kind on upward. */
        private static int ownerOf(int kind, int act) {
            int here = kind;
            for (int k = 0; k < KINDS && here > VOTER; k++) {
                if (at(OWN, here * ACTS + act) != 0) return here;
                here = at(ABOVE, here);
            }
            return VOTER;
        }

        private int perform(int n, int from, int act, int x, int depth) {
            if (depth > DEEPEST) return 0;
            int owner = ownerOf(from, act);
            int which = at(OWN, owner * ACTS + act);
            lay(traces, ran, which);
            ran++;
            return run(n, owner, which, x, depth + 1);
        }

        /** An act that one does by his own kind's body. */
        private int does(int n, int act, int x, int depth) {
            return perform(n, kindOf(n), act, x, depth);
        }

        private int run(int n, int owner, int which, int x, int depth) {
            int above = at(ABOVE, owner);
            switch (which) {
                case 1: return x + n;
                case 2: return does(n, VOTES, x, depth) - does(n, MOVES, 1, depth);
                case 10: return does(n, SITS, x, depth) * 2;
                case 11: return x ^ n;
                case 20: return perform(n, above, SITS, x, depth) + 3;
                case 30: return -perform(n, above, VOTES, x, depth);
                case 40: return perform(n, above, MOVES, x, depth) * 3;
                case 41: return perform(n, above, VOTES, x + 1, depth);
                case 50: return perform(n, above, MOVES, x, depth) - does(n, SITS, 2, depth);
                case 60: return perform(n, above, TELLS, x, depth) ^ 5;
                case 70: return perform(n, above, SITS, x, depth) * 2;
                case 80: return perform(n, above, VOTES, x, depth) + does(n, MOVES, 2, depth);
                case 81: return perform(n, above, TELLS, x, depth) - 1;
                default: return 0;
            }
        }
    }

    /** A shelf: nothing, a voter, or a row, whose elements lie in longs whatever its sort. */
    private static final class Shelf {
        static final int BYTES = 0, SHORTS = 1, INTS = 2, BOOLEANS = 4, LONGEST = 60;
        private static final int NO_ROW = -1, NO_VOTER = -1;

        private final long[] elements = new long[LONGEST];
        private int sort = NO_ROW;
        private int length;
        private int voter = NO_VOTER;

        boolean isRow() {
            return sort != NO_ROW;
        }

        boolean isRowOf(int wanted) {
            return isRow() && sort == wanted;
        }

        boolean isEmpty() {
            return !isRow() && voter == NO_VOTER;
        }

        int size() {
            return length;
        }

        /** Holds a voter; body -1: nothing. */
        void holdVoter(int body) {
            sort = NO_ROW;
            length = 0;
            voter = body;
        }

        void holdRow(int itsSort, int n) {
            voter = NO_VOTER;
            sort = itsSort;
            length = Math.min(n, elements.length);
            for (int i = 0; i < elements.length; i++) elements[i] = 0;
        }

        long valueAt(int i) {
            return i >= 0 && i < elements.length ? elements[i] : 0;
        }

        void write(int i, long v) {
            if (i >= 0 && i < elements.length) elements[i] = narrowed(v);
        }

        private long narrowed(long v) {
            switch (sort) {
                case BYTES: return (byte) v;
                case SHORTS: return (short) v;
                case INTS: return (int) v;
                case BOOLEANS: return v != 0 ? 1 : 0;
                default: return v;
            }
        }

        boolean takeFrom(Shelf from, int i, int j, int n) {
            if (i < 0 || j < 0 || n < 0 || i > from.length - n || j > length - n) return false;
            System.arraycopy(from.elements, i, elements, j, n);
            return true;
        }
    }
}
