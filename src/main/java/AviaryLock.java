import java.util.Arrays;

/** Both doors of an aviary, the lock between them, its birds and those who come; ../shared/DOC.md has its promises. */
public final class AviaryLock {
    public static final int NONE = -1;

    private static final int NO_WORTH = -1000000;
    private static final int TAPE_MOST = 1600;
    private static final int SORTS_MOST = 4;
    private static final int PARTIES_MOST = 12;
    private static final int UNITS_MOST = 60;
    private static final int UNITS_IN_ONE = 30;
    private static final int NESTED_MOST = 7;
    private static final int SEATS_MOST = 20;
    private static final int SPRING_MOST = 9;
    private static final int MANNERS_MOST = 100;
    private static final int CURTAIN_MOST = 9;
    private static final int BOARD_MOST = 20;
    private static final int ACTS_MOST = 40;
    private static final int BOXES = 3;
    private static final int WEEK_MOST = 999;
    private static final int SECOND_MOST = 2000;
    private static final int AT_ONCE_MOST = 300;
    private static final int DAY_MOST = 900;
    private static final int LYING_MOST = 5;

    private static final int OUTER = 0;
    private static final int INNER = 1;

    // Rows of parties; who waits in row 0 enters by door 0, who waits in row 1 by door 1.
    private static final int WAIT_OUTSIDE = 0;
    private static final int WAIT_INSIDE = 1;
    private static final int IN_LOCK = 2;
    private static final int ROWS = 3;

    private static final int DID_NOT_COME = 0;
    private static final int WAITS = 1;
    private static final int ENTERED = 2;
    private static final int THROUGH = 3;

    private static final int WITHIN = 0;
    private static final int BETWEEN = 1;
    private static final int OUTSIDE = 2;
    private static final int SLIPPED = 3;
    private static final int PLACES = 4;
    private static final int ODDS = 4;

    private final byte[] tape = new byte[TAPE_MOST];
    private int tapeLength;
    private final Reader reader = new Reader();
    private final House told;
    private final Course live;
    private final Planner planner;
    private final History history = new History();
    private final Now[] boxes = new Now[BOXES];
    private final boolean[] boxFull = new boolean[BOXES];
    private final Counts counts = new Counts();
    private final int[] lying = new int[LYING_MOST];
    private int lyingCount;

    public AviaryLock() {
        House empty = new House();
        told = empty;
        live = new Course(empty);
        planner = new Planner(empty);
        for (int i = 0; i < BOXES; i++) {
            boxes[i] = new Now();
        }
    }

    public int feed(int a, int b, int c, int d, int e) {
        if (tapeLength + 20 > TAPE_MOST) {
            return NONE;
        }
        putFour(a);
        putFour(b);
        putFour(c);
        putFour(d);
        putFour(e);
        return tapeLength;
    }

    private void putFour(int number) {
        for (int shift = 24; shift >= 0 && tapeLength < TAPE_MOST; shift -= 8) {
            tape[tapeLength] = (byte) (number >> shift);
            tapeLength++;
        }
    }

    public int end(int n) {
        if (n < 0 || n > tapeLength) {
            return NONE;
        }
        tapeLength = n;
        return n;
    }

    public int house() {
        if (!reader.read(tape, tapeLength)) {
            return NONE;
        }
        told.copyFrom(reader.house);
        tapeLength = 0;
        live.rules.copyFrom(told.rules);
        live.now.begin(told);
        history.clear();
        counts.clear();
        lyingCount = 0;
        emptyBoxes();
        return told.parties;
    }

    private void emptyBoxes() {
        for (int i = 0; i < BOXES; i++) {
            boxFull[i] = false;
        }
    }

    public int fault(int what) {
        if (what == 0) {
            return reader.fault;
        }
        return what == 1 ? reader.faultPlace : NONE;
    }

    public int sort(int sort, int what) {
        if (!told.hasSort(sort) || what < WITHIN || what > ODDS) {
            return NONE;
        }
        return what == ODDS ? live.oddsOf(sort) : live.now.birdsOf(sort, what);
    }

    public int party(int party, int what) {
        if (!told.hasParty(party)) {
            return NONE;
        }
        switch (what) {
            case 0: return live.now.place[party];
            case 1: return live.now.wait[party];
            case 2: return told.heads[party];
            case 3: return told.seats[party];
            case 4: return told.rules.comes[party];
            case 5: return told.goesIn[party];
            default: return NONE;
        }
    }

    public int door(int door) {
        return isDoor(door) ? live.now.open[door] : NONE;
    }

    private static boolean isDoor(int door) {
        return door == OUTER || door == INNER;
    }

    public int line(int what) {
        return what < WAIT_OUTSIDE || what > IN_LOCK ? NONE : live.now.sizes[what];
    }

    public int seconds(int n) {
        if (n < 0 || n > AT_ONCE_MOST || live.now.second + n > SECOND_MOST) {
            return NONE;
        }
        history.keep(live.now);
        for (int i = 0; i < n; i++) {
            live.passSecond();
        }
        return live.now.second;
    }

    public int net(int sort) {
        if (!told.hasSort(sort) || !live.isShut()) {
            return NONE;
        }
        history.keep(live.now);
        int all = live.now.birdsOf(sort, BETWEEN);
        live.now.moveBirds(sort, BETWEEN, WITHIN, all);
        return all;
    }

    public int food(int sort, int seeds) {
        if (!told.hasSort(sort) || seeds < 1 || seeds > 9) {
            return NONE;
        }
        history.keep(live.now);
        int come = live.now.drawShare(live.now.birdsOf(sort, OUTSIDE), 10 * seeds);
        live.now.moveBirds(sort, OUTSIDE, WITHIN, come);
        return come;
    }

    public int curtain(int n) {
        if (n < 0 || n > CURTAIN_MOST) {
            return NONE;
        }
        history.keep(live.now);
        int was = live.now.curtain;
        live.now.curtain = n;
        return was;
    }

    public boolean dusk() {
        history.keep(live.now);
        live.now.dark = !live.now.dark;
        return live.now.dark;
    }

    public int week() {
        if (live.now.week >= WEEK_MOST) {
            return NONE;
        }
        history.keep(live.now);
        live.now.beginWeek();
        return live.now.week;
    }

    public boolean undo() {
        return history.stepBack(live.now);
    }

    public boolean redo() {
        return history.stepOn(live.now);
    }

    public int day(int what) {
        if (what < 0 || what > 5) {
            return NONE;
        }
        Day day = planner.dayFrom(live.now);
        switch (what) {
            case 0: return day.isOver() ? day.passed : NONE;
            case 1: return day.longestWait();
            case 2: return day.waitsTogether();
            case 3: return day.course.now.gaps;
            case 4: return day.course.now.allOutside();
            default: return day.headsThrough();
        }
    }

    public int then(int sort, int what) {
        if (!told.hasSort(sort) || what < WITHIN || what > OUTSIDE) {
            return NONE;
        }
        return planner.dayFrom(live.now).course.now.birdsOf(sort, what);
    }

    public int peak(int what) {
        return what < 0 || what > 2 ? NONE : planner.dayFrom(live.now).course.peaks[what];
    }

    public int stuck() {
        return planner.dayFrom(live.now).notThrough();
    }

    public int holds() {
        return planner.dayFrom(live.now).course.heldTimes;
    }

    public int holders() {
        return planner.dayFrom(live.now).course.heldBits;
    }

    public int opened(int door) {
        return isDoor(door) ? planner.dayFrom(live.now).course.openTimes[door] : NONE;
    }

    public int crossings() {
        return planner.dayFrom(live.now).course.crossed;
    }

    public int polite(int n) {
        return n < 0 ? NONE : planner.greatestManners(live.now, n);
    }

    public int without(int what) {
        if (what != 0 && what != 1) {
            return NONE;
        }
        int party = planner.partyToSpare(live.now);
        return what == 0 || party == NONE ? party : planner.best;
    }

    public int gone(int sort) {
        return told.hasSort(sort) ? planner.weeksTillGone(live.now, sort) : NONE;
    }

    public int large(int wait) {
        return wait < 0 || wait > 999 ? NONE : planner.leastSeats(live.now, wait);
    }

    public int springs(int what) {
        if (what < 0 || what > 2) {
            return NONE;
        }
        planner.chooseSprings(live.now);
        return what == 2 ? planner.best : planner.chosen[what];
    }

    public int worth(int what) {
        if (what < 0 || what > 2) {
            return NO_WORTH;
        }
        return planner.outsideBy(live.now, what, false) - planner.outsideBy(live.now, what, true);
    }

    public int order(int n) {
        lyingCount = 0;
        if (n < 2 || n > LYING_MOST || !planner.chooseOrder(live.now, n)) {
            return NONE;
        }
        layDown(n);
        return planner.best;
    }

    public int veils(int n) {
        lyingCount = 0;
        if (n < 1 || n > Planner.VEILS_MOST || live.now.week + n > WEEK_MOST) {
            return NONE;
        }
        planner.chooseVeils(live.now, n);
        layDown(n);
        return planner.best;
    }

    private void layDown(int n) {
        System.arraycopy(planner.chosen, 0, lying, 0, n);
        lyingCount = n;
    }

    public long chance(int sort, int a, int b, int part) {
        boolean canBe = told.hasSort(sort) && a >= 0 && a <= 4 && b >= 0 && b <= 4;
        if (!canBe || part < 0 || part > 1) {
            return NONE;
        }
        int stays = 100 - live.oddsOf(sort);
        long upper = (power(100, a) - power(stays, a)) * (power(100, b) - power(stays, b));
        long lower = power(100, a + b);
        long shared = greatestShared(upper, lower);
        if (shared == 0) {
            return NONE;
        }
        return (part == 0 ? upper : lower) / shared;
    }

    private static long power(long base, int times) {
        long product = 1;
        for (int i = 0; i < times; i++) {
            product *= base;
        }
        return product;
    }

    private static long greatestShared(long a, long b) {
        // Euclid needs fewer than a hundred steps for two longs.
        for (int i = 0; i < 100 && b != 0; i++) {
            long rest = a % b;
            a = b;
            b = rest;
        }
        return a;
    }

    public int board(int i) {
        return i < 0 || i >= live.now.boardSize ? NONE : live.now.board[i];
    }

    public int lies(int i) {
        return i < 0 || i >= lyingCount ? NONE : lying[i];
    }

    public int count(int sort, int least, int most, int strangers) {
        boolean canBe = told.hasSort(sort) && least >= 0 && most >= least && most <= Counts.BIRDS_MOST;
        if (!canBe || strangers < 0 || strangers > most) {
            return NONE;
        }
        return counts.tell(sort, least, most, strangers);
    }

    public boolean untell(int count) {
        return counts.takeBack(count);
    }

    public int later(int by) {
        return counts.goOn(by);
    }

    public int span(int sort, int what, int k) {
        if (!told.hasSort(sort) || what < 0 || what > 2) {
            return NONE;
        }
        int least = counts.leastOf(sort, k);
        int most = counts.mostOf(sort, k);
        if (what == 2) {
            return Math.max(0, most - least + 1);
        }
        if (most < least) {
            return NONE;
        }
        return what == 0 ? least : most;
    }

    public int strangers(int sort, int k) {
        return told.hasSort(sort) ? counts.strangersOf(sort, k) : NONE;
    }

    public int lost(int sort, int k) {
        if (!told.hasSort(sort)) {
            return NONE;
        }
        int most = counts.mostOf(sort, k);
        if (most < counts.leastOf(sort, k)) {
            return NONE;
        }
        int own = Math.max(0, most - Math.max(0, counts.strangersOf(sort, k)));
        return Math.max(0, told.birds[sort] - own);
    }

    public int image(int box) {
        if (box < 0 || box >= BOXES) {
            return NONE;
        }
        boxes[box].copyFrom(live.now);
        boxFull[box] = true;
        return live.now.second;
    }

    public int back(int box) {
        if (box < 0 || box >= BOXES || !boxFull[box]) {
            return NONE;
        }
        live.now.copyFrom(boxes[box]);
        history.clear();
        return live.now.second;
    }

    public int about(int what) {
        switch (what) {
            case 0: return told.parties;
            case 1: return told.sorts;
            case 2: return live.now.second;
            case 3: return live.now.week;
            case 4: return live.now.seed;
            case 5: return told.rules.seats;
            case 6: return live.seatsTaken();
            case 7: return live.now.curtain;
            case 8: return live.now.dark ? 1 : 0;
            case 9: return told.rules.latch ? 1 : 0;
            case 10: return told.rules.manners;
            case 11: return live.now.gaps;
            case 12: return history.done;
            case 13: return history.undone;
            case 14: return counts.size;
            case 15: return counts.time;
            case 16: return tapeLength;
            case 17: return told.formulas.units;
            case 18: return lyingCount;
            default: return NONE;
        }
    }

    /** What is told of the house itself and a plan may try otherwise. */
    private static final class Rules {
        int seats = 4;
        boolean latch;
        int manners;
        final int[] spring = {2, 2};
        final int[] comes = new int[PARTIES_MOST];

        void clear() {
            seats = 4;
            latch = false;
            manners = 0;
            Arrays.fill(spring, 2);
        }

        void copyFrom(Rules other) {
            seats = other.seats;
            latch = other.latch;
            manners = other.manners;
            System.arraycopy(other.spring, 0, spring, 0, 2);
            System.arraycopy(other.comes, 0, comes, 0, PARTIES_MOST);
        }
    }

    /** All that a text tells. */
    private static final class House {
        final Rules rules = new Rules();
        final Formulas formulas = new Formulas();
        boolean dark;
        int curtain;
        int draw;
        int sorts;
        final int[] birds = new int[SORTS_MOST];
        int parties;
        final int[] heads = new int[PARTIES_MOST];
        final int[] seats = new int[PARTIES_MOST];
        final int[] goesIn = new int[PARTIES_MOST];

        void clear() {
            rules.clear();
            formulas.clear();
            dark = false;
            curtain = 0;
            draw = 0;
            sorts = 0;
            parties = 0;
        }

        void copyFrom(House other) {
            rules.copyFrom(other.rules);
            formulas.copyFrom(other.formulas);
            dark = other.dark;
            curtain = other.curtain;
            draw = other.draw;
            sorts = other.sorts;
            System.arraycopy(other.birds, 0, birds, 0, SORTS_MOST);
            parties = other.parties;
            System.arraycopy(other.heads, 0, heads, 0, PARTIES_MOST);
            System.arraycopy(other.seats, 0, seats, 0, PARTIES_MOST);
            System.arraycopy(other.goesIn, 0, goesIn, 0, PARTIES_MOST);
        }

        boolean hasSort(int sort) {
            return sort >= 0 && sort < sorts;
        }

        boolean hasParty(int party) {
            return party >= 0 && party < parties;
        }
    }

    /** The sorts' formulas, operands ahead of what joins them, so that asking needs no recursion. */
    private static final class Formulas {
        static final int NUMBER = 0;
        static final int FACT = 1;
        static final int NOT = 2;
        static final int OR = 3;
        static final int AND = 4;
        static final int LESS = 5;
        static final int MORE = 6;
        static final int SAME = 7;
        static final int PLUS = 8;
        static final int MINUS = 9;
        static final int TIMES = 10;
        static final int OVER = 11;
        static final int REST = 12;
        static final int GAP_FACT = 0;
        static final int PEOPLE_FACT = 1;
        static final int NIGHT_FACT = 2;
        static final int VEIL_FACT = 3;
        static final int WEEK_FACT = 4;
        static final int SLIPPED_FACT = 5;
        static final int FACTS = 6;
        private static final int STEP_BITS = 4;
        private static final int STEP_MASK = 15;
        // Each unit, a sign ahead of each but the first, and as many nots ahead of each as can be nested.
        private static final int STEPS_MOST = UNITS_MOST * (2 + NESTED_MOST);

        final int[] facts = new int[FACTS];
        int units;
        private int sorts;
        private int length;
        private final int[] start = new int[SORTS_MOST + 1];
        private final int[] steps = new int[STEPS_MOST];
        private final int[] stack = new int[UNITS_IN_ONE];

        void clear() {
            units = 0;
            sorts = 0;
            length = 0;
        }

        void copyFrom(Formulas other) {
            units = other.units;
            sorts = other.sorts;
            length = other.length;
            System.arraycopy(other.start, 0, start, 0, SORTS_MOST + 1);
            System.arraycopy(other.steps, 0, steps, 0, length);
        }

        void endSort() {
            if (sorts < SORTS_MOST) {
                sorts++;
                start[sorts] = length;
            }
        }

        void add(int step, int operand) {
            if (length < STEPS_MOST) {
                steps[length] = operand << STEP_BITS | step;
                length++;
            }
        }

        int odds(int sort) {
            int top = 0;
            for (int i = start[sort]; i < start[sort + 1]; i++) {
                int step = steps[i] & STEP_MASK;
                int operand = steps[i] >> STEP_BITS;
                if (step <= FACT && top < UNITS_IN_ONE) {
                    stack[top] = step == NUMBER ? operand : facts[operand];
                    top++;
                } else if (step == NOT && top > 0) {
                    stack[top - 1] = stack[top - 1] == 0 ? 1 : 0;
                } else if (step > NOT && top > 1) {
                    top--;
                    stack[top - 1] = joined(step, stack[top - 1], stack[top]);
                }
            }
            return Math.max(0, Math.min(100, stack[0]));
        }

        private static int joined(int step, int a, int b) {
            switch (step) {
                case OR: return a != 0 || b != 0 ? 1 : 0;
                case AND: return a != 0 && b != 0 ? 1 : 0;
                case LESS: return a < b ? 1 : 0;
                case MORE: return a > b ? 1 : 0;
                case SAME: return a == b ? 1 : 0;
                case PLUS: return a + b;
                case MINUS: return a - b;
                case TIMES: return a * b;
                case OVER: return b == 0 ? 0 : a / b;
                default: return b == 0 ? 0 : a % b;
            }
        }
    }

    /** The text's tokens, one at a time. */
    private static final class Tokens {
        static final int END = 0;
        static final int BAD = 1;
        static final int NUMBER = 2;
        static final int NAME = 3;
        // Signs are their own kinds; the words of WORDS follow behind the last sign.
        static final int LOCK = 128;
        static final int SPRING = 129;
        static final int LATCH = 130;
        static final int MANNERS = 131;
        static final int DARK = 132;
        static final int CURTAIN = 133;
        static final int DRAW = 134;
        static final int SORT = 135;
        static final int PARTY = 136;
        static final int BIRDS = 137;
        static final int SLIPS = 138;
        static final int AT = 139;
        static final int IN = 140;
        static final int OUT = 141;
        static final int PRAM = 142;
        static final int OR = 143;
        static final int AND = 144;
        static final int NOT = 145;
        static final int GAP = 146;
        static final int SLIPPED_WORD = 151;
        private static final String WORDS =
            "lock spring latch manners dark curtain draw sort party birds slips at in out pram or and not gap people night veil week slipped ";
        private static final String SIGNS = ";()<>=+-*/%";
        private static final int LETTERS_MOST = 8;
        private static final int DIGITS_MOST = 4;

        int kind;
        int place;
        int next;
        int number;
        private byte[] text = new byte[0];
        private int length;

        void begin(byte[] newText, int newLength) {
            text = newText;
            length = Math.min(newLength, newText.length);
            next = 0;
            advance();
        }

        /** Behind a fault nothing more is read. */
        void stop() {
            next = length;
            kind = END;
        }

        void advance() {
            place = next;
            while (place < length && (text[place] == ' ' || text[place] == '\n')) {
                place++;
            }
            next = place;
            while (next < length && isLetter(text[next])) {
                next++;
            }
            if (next > place) {
                kind = next - place > LETTERS_MOST ? BAD : wordKind();
            } else if (place >= length) {
                kind = END;
            } else if (isDigit(text[place])) {
                readNumber();
            } else {
                next = place + 1;
                kind = SIGNS.indexOf((char) (text[place] & 255)) >= 0 ? text[place] : BAD;
            }
        }

        private static boolean isLetter(int sign) {
            return sign >= 'a' && sign <= 'z';
        }

        private static boolean isDigit(int sign) {
            return sign >= '0' && sign <= '9';
        }

        private int wordKind() {
            int word = LOCK;
            int matched = 0;
            boolean same = true;
            for (int i = 0; i < WORDS.length(); i++) {
                if (WORDS.charAt(i) != ' ') {
                    same = same && place + matched < next && text[place + matched] == WORDS.charAt(i);
                    matched++;
                } else if (same && place + matched == next) {
                    return word;
                } else {
                    word++;
                    matched = 0;
                    same = true;
                }
            }
            return NAME;
        }

        boolean isSameAsNow(int from, int end) {
            if (from < 0 || end > length || end - from != next - place) {
                return false;
            }
            for (int i = from; i < end; i++) {
                if (text[i] != text[place + i - from]) {
                    return false;
                }
            }
            return true;
        }

        private void readNumber() {
            number = 0;
            while (next < length && isDigit(text[next])) {
                number = next - place < DIGITS_MOST ? number * 10 + text[next] - '0' : number;
                next++;
            }
            boolean isLetterBehind = next < length && isLetter(text[next]);
            kind = next - place > DIGITS_MOST || isLetterBehind ? BAD : NUMBER;
        }
    }

    /** Reads a text by the document's grammar into a house of its own, up to the first fault. */
    private static final class Reader {
        private static final int NO_TOKEN = 1;
        private static final int CANNOT_STAND = 2;
        private static final int NAME_TOLD = 3;
        private static final int CANNOT_BE = 4;

        final House house = new House();
        int fault;
        int faultPlace = NONE;
        private final Tokens tokens = new Tokens();
        private int toldOnce;
        private int unitsHere;
        private final int[] nameFrom = new int[SORTS_MOST];
        private final int[] nameEnd = new int[SORTS_MOST];

        boolean read(byte[] text, int length) {
            house.clear();
            fault = 0;
            faultPlace = NONE;
            toldOnce = 0;
            tokens.begin(text, length);
            for (int i = 0; i < length && tokens.kind != Tokens.END; i++) {
                readLine();
            }
            return fault == 0;
        }

        private void fail(int kind) {
            if (fault == 0) {
                fault = kind;
                faultPlace = tokens.place;
            }
            tokens.stop();
        }

        private void refuse() {
            fail(tokens.kind == Tokens.BAD ? NO_TOKEN : CANNOT_STAND);
        }

        private void expect(int kind) {
            if (tokens.kind == kind) {
                tokens.advance();
            } else {
                refuse();
            }
        }

        private int numberIn(int least, int most) {
            if (tokens.kind != Tokens.NUMBER) {
                refuse();
                return least;
            }
            int number = tokens.number;
            if (number < least || number > most) {
                fail(CANNOT_BE);
                return least;
            }
            tokens.advance();
            return number;
        }

        private void readLine() {
            int word = tokens.kind;
            if (!mayBegin(word)) {
                refuse();
                return;
            }
            tokens.advance();
            switch (word) {
                case Tokens.LOCK: house.rules.seats = numberIn(1, SEATS_MOST); break;
                case Tokens.SPRING: readSprings(); break;
                case Tokens.LATCH: house.rules.latch = true; break;
                case Tokens.MANNERS: house.rules.manners = numberIn(0, MANNERS_MOST); break;
                case Tokens.DARK: house.dark = true; break;
                case Tokens.CURTAIN: house.curtain = numberIn(0, CURTAIN_MOST); break;
                case Tokens.DRAW: house.draw = numberIn(0, 999); break;
                case Tokens.SORT: readSort(house.sorts); break;
                default: readParty(house.parties); break;
            }
            expect(';');
        }

        private boolean mayBegin(int word) {
            if (word == Tokens.SORT) {
                return house.sorts < SORTS_MOST;
            }
            if (word == Tokens.PARTY) {
                return house.parties < PARTIES_MOST;
            }
            if (word < Tokens.LOCK || word > Tokens.DRAW) {
                return false;
            }
            int bit = 1 << (word - Tokens.LOCK);
            boolean isFirst = (toldOnce & bit) == 0;
            toldOnce |= bit;
            return isFirst;
        }

        private void readSprings() {
            house.rules.spring[OUTER] = numberIn(1, SPRING_MOST);
            house.rules.spring[INNER] = numberIn(1, SPRING_MOST);
        }

        private void readParty(int party) {
            int heads = numberIn(1, 9);
            expect(Tokens.AT);
            house.rules.comes[party] = numberIn(0, 299);
            house.goesIn[party] = tokens.kind == Tokens.IN ? 1 : 0;
            expect(tokens.kind == Tokens.IN ? Tokens.IN : Tokens.OUT);
            house.heads[party] = heads;
            house.seats[party] = heads;
            if (tokens.kind == Tokens.PRAM) {
                house.seats[party] = heads + 2;
                tokens.advance();
            }
            house.parties = party + 1;
        }

        private void readSort(int sort) {
            readName(sort);
            expect(Tokens.BIRDS);
            house.birds[sort] = numberIn(0, 240);
            expect(Tokens.SLIPS);
            unitsHere = 0;
            readOrs(0);
            house.formulas.endSort();
            house.sorts = sort + 1;
        }

        private void readName(int sort) {
            if (tokens.kind != Tokens.NAME) {
                refuse();
                return;
            }
            for (int i = 0; i < sort; i++) {
                if (tokens.isSameAsNow(nameFrom[i], nameEnd[i])) {
                    fail(NAME_TOLD);
                    return;
                }
            }
            nameFrom[sort] = tokens.place;
            nameEnd[sort] = tokens.next;
            tokens.advance();
        }

        private void readOrs(int depth) {
            readAnds(depth);
            for (int i = 0; i < UNITS_IN_ONE && tokens.kind == Tokens.OR; i++) {
                tokens.advance();
                readAnds(depth);
                house.formulas.add(Formulas.OR, 0);
            }
        }

        private void readAnds(int depth) {
            readOne(depth);
            for (int i = 0; i < UNITS_IN_ONE && tokens.kind == Tokens.AND; i++) {
                tokens.advance();
                readOne(depth);
                house.formulas.add(Formulas.AND, 0);
            }
        }

        private void readOne(int depth) {
            if (tokens.kind != Tokens.NOT) {
                readRelation(depth);
            } else if (depth >= NESTED_MOST) {
                refuse();
            } else {
                tokens.advance();
                readOne(depth + 1);
                house.formulas.add(Formulas.NOT, 0);
            }
        }

        private void readRelation(int depth) {
            readSum(depth);
            int sign = tokens.kind;
            if (sign == '<' || sign == '>' || sign == '=') {
                tokens.advance();
                readSum(depth);
                house.formulas.add(sign == '<' ? Formulas.LESS : sign == '>' ? Formulas.MORE : Formulas.SAME, 0);
            }
        }

        private void readSum(int depth) {
            readTerm(depth);
            for (int i = 0; i < UNITS_IN_ONE && (tokens.kind == '+' || tokens.kind == '-'); i++) {
                int step = tokens.kind == '+' ? Formulas.PLUS : Formulas.MINUS;
                tokens.advance();
                readTerm(depth);
                house.formulas.add(step, 0);
            }
        }

        private void readTerm(int depth) {
            readUnit(depth);
            for (int i = 0; i < UNITS_IN_ONE && isTimesSign(tokens.kind); i++) {
                int sign = tokens.kind;
                tokens.advance();
                readUnit(depth);
                house.formulas.add(sign == '*' ? Formulas.TIMES : sign == '/' ? Formulas.OVER : Formulas.REST, 0);
            }
        }

        private static boolean isTimesSign(int kind) {
            return kind == '*' || kind == '/' || kind == '%';
        }

        private void readUnit(int depth) {
            int kind = tokens.kind;
            boolean isFact = kind >= Tokens.GAP && kind <= Tokens.SLIPPED_WORD;
            boolean canStand = isFact || kind == Tokens.NUMBER || kind == '(' && depth < NESTED_MOST;
            if (!canStand || unitsHere >= UNITS_IN_ONE || house.formulas.units >= UNITS_MOST) {
                refuse();
                return;
            }
            unitsHere++;
            house.formulas.units++;
            if (isFact) {
                house.formulas.add(Formulas.FACT, kind - Tokens.GAP);
            } else if (kind == Tokens.NUMBER) {
                house.formulas.add(Formulas.NUMBER, tokens.number);
            }
            tokens.advance();
            if (kind == '(') {
                readOrs(depth + 1);
                if (tokens.kind == ')') {
                    tokens.advance();
                } else {
                    refuse();
                }
            }
        }
    }

    /** What is so at one moment; all that an act changes and a box keeps. */
    private static final class Now {
        int second;
        int week;
        int seed;
        int gaps;
        int curtain;
        boolean dark;
        int boardSize;
        final int[] board = new int[BOARD_MOST];
        final int[] open = new int[2];
        final int[] place = new int[PARTIES_MOST];
        final int[] wait = new int[PARTIES_MOST];
        final int[] sizes = new int[ROWS];
        private final int[] rows = new int[ROWS * PARTIES_MOST];
        private final int[] birds = new int[PLACES * SORTS_MOST];

        void begin(House house) {
            week = 0;
            seed = house.draw;
            gaps = 0;
            curtain = house.curtain;
            dark = house.dark;
            boardSize = 0;
            Arrays.fill(birds, 0);
            for (int sort = 0; sort < house.sorts; sort++) {
                birds[WITHIN * SORTS_MOST + sort] = house.birds[sort];
            }
            clearPeople();
        }

        void beginWeek() {
            week++;
            clearPeople();
        }

        private void clearPeople() {
            second = 0;
            Arrays.fill(open, 0);
            Arrays.fill(sizes, 0);
            Arrays.fill(place, DID_NOT_COME);
            Arrays.fill(wait, NONE);
        }

        void copyFrom(Now other) {
            second = other.second;
            week = other.week;
            seed = other.seed;
            gaps = other.gaps;
            curtain = other.curtain;
            dark = other.dark;
            boardSize = other.boardSize;
            System.arraycopy(other.board, 0, board, 0, BOARD_MOST);
            System.arraycopy(other.open, 0, open, 0, 2);
            System.arraycopy(other.place, 0, place, 0, PARTIES_MOST);
            System.arraycopy(other.wait, 0, wait, 0, PARTIES_MOST);
            System.arraycopy(other.sizes, 0, sizes, 0, ROWS);
            System.arraycopy(other.rows, 0, rows, 0, ROWS * PARTIES_MOST);
            System.arraycopy(other.birds, 0, birds, 0, PLACES * SORTS_MOST);
        }

        int draw() {
            seed = (seed * 137 + 71) % 1000;
            return seed % 100;
        }

        int drawShare(int all, int percent) {
            return Math.min(all, (all * percent + draw()) / 100);
        }

        int birdsOf(int sort, int where) {
            return birds[where * SORTS_MOST + sort];
        }

        void moveBirds(int sort, int from, int to, int n) {
            birds[from * SORTS_MOST + sort] -= n;
            birds[to * SORTS_MOST + sort] += n;
            if (to == OUTSIDE) {
                birds[SLIPPED * SORTS_MOST + sort] += n;
            }
        }

        int allOutside() {
            int all = 0;
            for (int sort = 0; sort < SORTS_MOST; sort++) {
                all += birdsOf(sort, OUTSIDE);
            }
            return all;
        }

        int inRow(int row, int i) {
            return i < 0 || i >= sizes[row] ? NONE : rows[row * PARTIES_MOST + i];
        }

        void joinRow(int row, int party) {
            if (sizes[row] < PARTIES_MOST) {
                rows[row * PARTIES_MOST + sizes[row]] = party;
                sizes[row]++;
            }
        }

        void leaveRow(int row, int party) {
            int kept = 0;
            int first = row * PARTIES_MOST;
            for (int i = 0; i < sizes[row]; i++) {
                if (rows[first + i] != party) {
                    rows[first + kept] = rows[first + i];
                    kept++;
                }
            }
            sizes[row] = kept;
        }

        void noteOnBoard(int party) {
            for (int i = BOARD_MOST - 1; i > 0; i--) {
                board[i] = board[i - 1];
            }
            board[0] = party;
            boardSize = Math.min(BOARD_MOST, boardSize + 1);
        }
    }

    /** Seconds that go by, in earnest or to see what would be; what is told of a day is tallied on the way. */
    private static final class Course {
        final House house;
        final Rules rules = new Rules();
        final Now now = new Now();
        int heldTimes;
        int heldBits;
        int greatestHeld = NONE;
        int crossed;
        final int[] openTimes = new int[2];
        final int[] peaks = new int[ROWS];

        Course(House told) {
            house = told;
        }

        void clearTally() {
            heldTimes = 0;
            heldBits = 0;
            greatestHeld = NONE;
            crossed = 0;
            Arrays.fill(openTimes, 0);
            Arrays.fill(peaks, 0);
        }

        boolean isShut() {
            return now.open[OUTER] == 0 && now.open[INNER] == 0;
        }

        private boolean isGap() {
            return now.open[OUTER] > 0 && now.open[INNER] > 0;
        }

        void passSecond() {
            come();
            now.open[OUTER] = Math.max(0, now.open[OUTER] - 1);
            now.open[INNER] = Math.max(0, now.open[INNER] - 1);
            leaveLock(1, INNER);
            leaveLock(0, OUTER);
            enterLock(WAIT_OUTSIDE, OUTER);
            enterLock(WAIT_INSIDE, INNER);
            tally();
            slip();
            now.second++;
        }

        private void come() {
            for (int party = 0; party < house.parties; party++) {
                if (now.place[party] == DID_NOT_COME && rules.comes[party] == now.second) {
                    now.place[party] = WAITS;
                    now.joinRow(house.goesIn[party] == 1 ? WAIT_OUTSIDE : WAIT_INSIDE, party);
                }
            }
        }

        private void leaveLock(int goesIn, int door) {
            int party = firstInLock(goesIn);
            if (party != NONE && pass(door, party)) {
                now.leaveRow(IN_LOCK, party);
                now.place[party] = THROUGH;
            }
        }

        private int firstInLock(int goesIn) {
            for (int i = 0; i < now.sizes[IN_LOCK]; i++) {
                int party = now.inRow(IN_LOCK, i);
                if (house.goesIn[party] == goesIn) {
                    return party;
                }
            }
            return NONE;
        }

        private void enterLock(int row, int door) {
            int party = now.inRow(row, 0);
            if (party == NONE || seatsTaken() + house.seats[party] > rules.seats || !pass(door, party)) {
                return;
            }
            now.leaveRow(row, party);
            now.joinRow(IN_LOCK, party);
            now.place[party] = ENTERED;
            now.wait[party] = now.second - rules.comes[party];
        }

        private boolean pass(int door, int party) {
            int other = door == OUTER ? INNER : OUTER;
            if (now.open[door] == 0 && now.open[other] > 0) {
                if (rules.latch) {
                    return false;
                }
                int draw = now.draw();
                if (draw >= rules.manners) {
                    return false;
                }
                heldTimes++;
                heldBits |= 1 << party;
                greatestHeld = Math.max(greatestHeld, draw);
                now.noteOnBoard(party);
            }
            now.open[door] = rules.spring[door];
            return true;
        }

        int seatsTaken() {
            int taken = 0;
            for (int i = 0; i < now.sizes[IN_LOCK]; i++) {
                taken += house.seats[now.inRow(IN_LOCK, i)];
            }
            return taken;
        }

        private int headsInLock() {
            int heads = 0;
            for (int i = 0; i < now.sizes[IN_LOCK]; i++) {
                heads += house.heads[now.inRow(IN_LOCK, i)];
            }
            return heads;
        }

        private void tally() {
            if (isGap()) {
                now.gaps++;
            }
            openTimes[OUTER] += now.open[OUTER] > 0 ? 1 : 0;
            openTimes[INNER] += now.open[INNER] > 0 ? 1 : 0;
            peaks[WAIT_OUTSIDE] = Math.max(peaks[WAIT_OUTSIDE], now.sizes[WAIT_OUTSIDE]);
            peaks[WAIT_INSIDE] = Math.max(peaks[WAIT_INSIDE], now.sizes[WAIT_INSIDE]);
            peaks[IN_LOCK] = Math.max(peaks[IN_LOCK], headsInLock());
            if (firstInLock(1) != NONE && firstInLock(0) != NONE) {
                crossed++;
            }
        }

        private void slip() {
            if (isShut()) {
                return;
            }
            noteFacts();
            for (int sort = 0; sort < house.sorts; sort++) {
                // One asking serves both doors: nothing that a formula knows changes between them.
                house.formulas.facts[Formulas.SLIPPED_FACT] = now.birdsOf(sort, SLIPPED);
                int odds = house.formulas.odds(sort);
                if (now.open[INNER] > 0) {
                    now.moveBirds(sort, WITHIN, BETWEEN, now.drawShare(now.birdsOf(sort, WITHIN), odds));
                }
                if (now.open[OUTER] > 0) {
                    now.moveBirds(sort, BETWEEN, OUTSIDE, now.drawShare(now.birdsOf(sort, BETWEEN), odds));
                }
            }
        }

        int oddsOf(int sort) {
            noteFacts();
            house.formulas.facts[Formulas.SLIPPED_FACT] = now.birdsOf(sort, SLIPPED);
            return house.formulas.odds(sort);
        }

        private void noteFacts() {
            int[] facts = house.formulas.facts;
            facts[Formulas.GAP_FACT] = isGap() ? 1 : 0;
            facts[Formulas.PEOPLE_FACT] = headsInLock();
            facts[Formulas.NIGHT_FACT] = now.dark ? 1 : 0;
            facts[Formulas.VEIL_FACT] = now.curtain;
            facts[Formulas.WEEK_FACT] = now.week;
        }
    }

    /** A day from some moment on, by rules as told or tried. */
    private static final class Day {
        final Course course;
        int passed;

        Day(House told) {
            course = new Course(told);
        }

        void begin(Now from) {
            course.rules.copyFrom(course.house.rules);
            course.now.copyFrom(from);
        }

        void run() {
            course.clearTally();
            passed = 0;
            while (passed < DAY_MOST && !isOver()) {
                course.passSecond();
                passed++;
                if (course.isShut()) {
                    passed += skipQuiet(DAY_MOST - passed);
                }
            }
        }

        // Behind a second that leaves both doors shut the lock is empty and nobody who waits fits in,
        // so that nothing changes till somebody comes.
        private int skipQuiet(int most) {
            int quiet = most;
            for (int party = 0; party < course.house.parties; party++) {
                if (course.now.place[party] == DID_NOT_COME) {
                    quiet = Math.min(quiet, course.rules.comes[party] - course.now.second);
                }
            }
            quiet = Math.max(0, quiet);
            course.now.second += quiet;
            return quiet;
        }

        boolean isOver() {
            return notThrough() == 0;
        }

        int notThrough() {
            int bits = 0;
            for (int party = 0; party < course.house.parties; party++) {
                bits |= course.now.place[party] == THROUGH ? 0 : 1 << party;
            }
            return bits;
        }

        int longestWait() {
            int longest = 0;
            for (int party = 0; party < course.house.parties; party++) {
                longest = Math.max(longest, course.now.wait[party]);
            }
            return longest;
        }

        int waitsTogether() {
            int all = 0;
            for (int party = 0; party < course.house.parties; party++) {
                all += Math.max(0, course.now.wait[party]);
            }
            return all;
        }

        int headsThrough() {
            int heads = 0;
            for (int party = 0; party < course.house.parties; party++) {
                heads += course.now.place[party] == THROUGH ? course.house.heads[party] : 0;
            }
            return heads;
        }
    }

    /** Tries days by other rules and keeps the best; no act is done by it. */
    private static final class Planner {
        static final int VEILS_MOST = 4;
        private static final int VEIL_MOST = 2;
        private static final int ROWS_OF_VEILS = 81;
        private static final int ROWS_OF_PARTIES = 120;
        private static final int SPRING_TRIED = 4;
        private static final int WEEKS_TRIED = 20;
        private static final int LATCH = 0;
        private static final int DARK = 1;

        int best;
        final int[] chosen = new int[LYING_MOST];
        private final House house;
        private final Day day;
        private final int[] parties = new int[LYING_MOST];
        private final int[] row = new int[LYING_MOST];
        private final Now[] beforeWeek = new Now[VEILS_MOST];

        Planner(House told) {
            house = told;
            day = new Day(told);
            for (int i = 0; i < VEILS_MOST; i++) {
                beforeWeek[i] = new Now();
            }
        }

        Day dayFrom(Now now) {
            day.begin(now);
            day.run();
            return day;
        }

        int greatestManners(Now now, int outsideMost) {
            int manners = MANNERS_MOST;
            for (int tries = 0; tries <= MANNERS_MOST && manners >= 0; tries++) {
                day.begin(now);
                day.course.rules.manners = manners;
                day.run();
                if (day.course.now.allOutside() <= outsideMost) {
                    return manners;
                }
                // Manners above the greatest draw that held a door would make this same day again.
                manners = day.course.greatestHeld;
            }
            return NONE;
        }

        int partyToSpare(Now now) {
            int spared = NONE;
            for (int party = 0; party < house.parties; party++) {
                if (now.place[party] != DID_NOT_COME) {
                    continue;
                }
                day.begin(now);
                day.course.now.place[party] = THROUGH;
                day.run();
                if (spared == NONE || day.waitsTogether() < best) {
                    spared = party;
                    best = day.waitsTogether();
                }
            }
            return spared;
        }

        int weeksTillGone(Now now, int sort) {
            day.begin(now);
            for (int weeks = 0; weeks <= WEEKS_TRIED; weeks++) {
                if (day.course.now.birdsOf(sort, WITHIN) == 0) {
                    return weeks;
                }
                if (weeks == WEEKS_TRIED || day.course.now.week >= WEEK_MOST) {
                    return NONE;
                }
                day.course.now.beginWeek();
                day.run();
            }
            return NONE;
        }

        int leastSeats(Now now, int waitMost) {
            for (int seats = 1; seats <= SEATS_MOST; seats++) {
                day.begin(now);
                day.course.rules.seats = seats;
                day.run();
                if (day.isOver() && day.longestWait() <= waitMost) {
                    return seats;
                }
            }
            return NONE;
        }

        void chooseSprings(Now now) {
            best = NONE;
            int bestWaits = 0;
            for (int outer = 1; outer <= SPRING_TRIED; outer++) {
                for (int inner = 1; inner <= SPRING_TRIED; inner++) {
                    day.begin(now);
                    day.course.rules.spring[OUTER] = outer;
                    day.course.rules.spring[INNER] = inner;
                    day.run();
                    int outside = day.course.now.allOutside();
                    int waits = day.waitsTogether();
                    if (best == NONE || outside < best || outside == best && waits < bestWaits) {
                        best = outside;
                        bestWaits = waits;
                        chosen[OUTER] = outer;
                        chosen[INNER] = inner;
                    }
                }
            }
        }

        int outsideBy(Now now, int what, boolean has) {
            day.begin(now);
            if (what == LATCH) {
                day.course.rules.latch = has;
            } else if (what == DARK) {
                day.course.now.dark = has;
            } else {
                day.course.now.curtain = has ? CURTAIN_MOST : 0;
            }
            day.run();
            return day.course.now.allOutside();
        }

        boolean chooseOrder(Now now, int n) {
            int found = 0;
            for (int party = 0; party < house.parties && found < n; party++) {
                if (now.place[party] == DID_NOT_COME) {
                    parties[found] = party;
                    row[found] = party;
                    found++;
                }
            }
            if (found < n) {
                return false;
            }
            best = NONE;
            boolean isMore = true;
            for (int tries = 0; tries < ROWS_OF_PARTIES && isMore; tries++) {
                day.begin(now);
                for (int i = 0; i < n; i++) {
                    day.course.rules.comes[row[i]] = house.rules.comes[parties[i]];
                }
                day.run();
                keepIfFewer(day.waitsTogether(), n);
                isMore = turnRow(n);
            }
            return true;
        }

        private void keepIfFewer(int number, int n) {
            if (best == NONE || number < best) {
                best = number;
                System.arraycopy(row, 0, chosen, 0, n);
            }
        }

        /** Makes the row the next one by numbers; false if it was the last. */
        private boolean turnRow(int n) {
            int turn = n - 2;
            while (turn >= 0 && row[turn] > row[turn + 1]) {
                turn--;
            }
            if (turn < 0) {
                return false;
            }
            int greater = n - 1;
            while (greater > turn && row[greater] < row[turn]) {
                greater--;
            }
            swapInRow(turn, greater);
            int high = n - 1;
            for (int low = turn + 1; low < high; low++) {
                swapInRow(low, high);
                high--;
            }
            return true;
        }

        private void swapInRow(int i, int j) {
            int kept = row[i];
            row[i] = row[j];
            row[j] = kept;
        }

        void chooseVeils(Now now, int n) {
            best = NONE;
            Arrays.fill(row, 0);
            beforeWeek[0].copyFrom(now);
            int changed = 0;
            for (int tries = 0; tries < ROWS_OF_VEILS && changed >= 0; tries++) {
                // Weeks ahead of the first other curtain are as they were, so that they need not go by again.
                for (int week = changed; week < n; week++) {
                    day.begin(beforeWeek[week]);
                    day.course.now.curtain = row[week];
                    day.course.now.beginWeek();
                    day.run();
                    if (week + 1 < n) {
                        beforeWeek[week + 1].copyFrom(day.course.now);
                    }
                }
                keepIfFewer(day.course.now.allOutside(), n);
                changed = nextVeils(n);
            }
        }

        /** The first week that has another curtain in the next row; NONE behind the last row. */
        private int nextVeils(int n) {
            for (int week = n - 1; week >= 0; week--) {
                if (row[week] < VEIL_MOST) {
                    row[week]++;
                    return week;
                }
                row[week] = 0;
            }
            return NONE;
        }
    }

    /** What was ahead of each act, and behind those that were taken back. */
    private static final class History {
        private static final int SLOTS = ACTS_MOST + 1;

        int done;
        int undone;
        private int oldest;
        private final Now[] kept = new Now[SLOTS];

        History() {
            for (int i = 0; i < SLOTS; i++) {
                kept[i] = new Now();
            }
        }

        void clear() {
            done = 0;
            undone = 0;
        }

        private Now slot(int i) {
            return kept[(oldest + i) % SLOTS];
        }

        /** To be called ahead of an act. */
        void keep(Now now) {
            slot(done).copyFrom(now);
            undone = 0;
            if (done < ACTS_MOST) {
                done++;
            } else {
                oldest = (oldest + 1) % SLOTS;
            }
        }

        boolean stepBack(Now now) {
            if (done == 0) {
                return false;
            }
            slot(done).copyFrom(now);
            done--;
            undone++;
            now.copyFrom(slot(done));
            return true;
        }

        boolean stepOn(Now now) {
            if (undone == 0) {
                return false;
            }
            done++;
            undone--;
            now.copyFrom(slot(done));
            return true;
        }
    }

    /** What was counted, and when that was told and untold. */
    private static final class Counts {
        static final int BIRDS_MOST = 480;
        private static final int COUNTS_MOST = 30;
        private static final int STEP_MOST = 1000;
        private static final int TIME_MOST = 100000;

        int time;
        int size;
        private final int[] sorts = new int[COUNTS_MOST];
        private final int[] leasts = new int[COUNTS_MOST];
        private final int[] mosts = new int[COUNTS_MOST];
        private final int[] foreign = new int[COUNTS_MOST];
        private final int[] toldAt = new int[COUNTS_MOST];
        private final int[] untoldAt = new int[COUNTS_MOST];

        void clear() {
            size = 0;
        }

        int goOn(int by) {
            if (by < 0 || by > STEP_MOST || time + by > TIME_MOST) {
                return NONE;
            }
            time += by;
            return time;
        }

        int tell(int sort, int least, int most, int strange) {
            if (size >= COUNTS_MOST) {
                return NONE;
            }
            sorts[size] = sort;
            leasts[size] = least;
            mosts[size] = most;
            foreign[size] = strange;
            toldAt[size] = time;
            untoldAt[size] = NONE;
            size++;
            return size - 1;
        }

        boolean takeBack(int i) {
            if (i < 0 || i >= size || untoldAt[i] != NONE) {
                return false;
            }
            untoldAt[i] = time;
            return true;
        }

        private boolean isKnown(int i, int sort, int k) {
            return sorts[i] == sort && toldAt[i] <= k && (untoldAt[i] == NONE || untoldAt[i] > k);
        }

        int leastOf(int sort, int k) {
            int least = 0;
            for (int i = 0; i < size; i++) {
                least = isKnown(i, sort, k) ? Math.max(least, leasts[i]) : least;
            }
            return least;
        }

        int mostOf(int sort, int k) {
            int most = BIRDS_MOST;
            for (int i = 0; i < size; i++) {
                most = isKnown(i, sort, k) ? Math.min(most, mosts[i]) : most;
            }
            return most;
        }

        int strangersOf(int sort, int k) {
            int most = NONE;
            for (int i = 0; i < size; i++) {
                most = isKnown(i, sort, k) ? Math.max(most, foreign[i]) : most;
            }
            return most;
        }
    }
}
