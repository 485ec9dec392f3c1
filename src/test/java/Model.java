import java.util.ArrayList;
import java.util.Arrays;
import java.util.HashSet;
import java.util.List;
import java.util.Set;
import java.util.function.ToIntFunction;
import java.util.regex.Matcher;
import java.util.regex.Pattern;

/** The document once more, as plainly as can be and with no shortcut, to hold the class against. */
final class Model {
    static final int NONE = -1;

    static final class Fault extends Exception {
        private static final long serialVersionUID = 1L;
        final int kind;
        final int place;

        Fault(int kind, int place) {
            this.kind = kind;
            this.place = place;
        }
    }

    record Env(int gap, int people, int night, int veil, int week, int slipped) {
    }

    record Party(int heads, int at, boolean in, boolean pram) {
        int need() {
            return heads + (pram ? 2 : 0);
        }
    }

    static final class Told {
        int seats = 4;
        int[] spring = {2, 2};
        boolean latch;
        int manners;
        boolean dark;
        int curtain;
        int draw;
        int units;
        final List<String> names = new ArrayList<>();
        final List<Integer> birds = new ArrayList<>();
        final List<ToIntFunction<Env>> slips = new ArrayList<>();
        final List<Party> parties = new ArrayList<>();
    }

    /** The grammar, token by token, with the first fault thrown. */
    static final class Parser {
        static final Set<String> WORDS = new HashSet<>(Arrays.asList(
            "lock", "spring", "latch", "manners", "dark", "curtain", "sort", "birds", "slips", "party", "at", "in",
            "out", "pram", "draw", "or", "and", "not", "gap", "people", "night", "veil", "week", "slipped"));
        static final Pattern TOKEN = Pattern.compile("[a-z]+|[0-9]+(?<letters>[a-z]*)|[;()<>=+*/%-]");
        final String text;
        final Told told = new Told();
        final Set<String> once = new HashSet<>();
        int at;
        int inOne;

        Parser(String text) {
            this.text = text;
        }

        void blanks() {
            while (at < text.length() && (text.charAt(at) == ' ' || text.charAt(at) == '\n')) {
                at++;
            }
        }

        /** The token ahead, "" at the end. */
        String peek() throws Fault {
            blanks();
            if (at == text.length()) {
                return "";
            }
            Matcher m = TOKEN.matcher(text).region(at, text.length());
            if (!m.lookingAt()) {
                throw new Fault(1, at);
            }
            String t = m.group();
            boolean word = Character.isLetter(t.charAt(0));
            boolean digits = Character.isDigit(t.charAt(0));
            if (word && t.length() > 8 || digits && (t.length() > 4 || !m.group("letters").isEmpty())) {
                throw new Fault(1, at);
            }
            return t;
        }

        void take(String want) throws Fault {
            if (!peek().equals(want)) {
                throw new Fault(2, at);
            }
            at += want.length();
        }

        boolean taken(String want) throws Fault {
            boolean is = peek().equals(want);
            if (is) {
                at += want.length();
            }
            return is;
        }

        int number(int least, int most) throws Fault {
            String t = peek();
            if (t.isEmpty() || !Character.isDigit(t.charAt(0))) {
                throw new Fault(2, at);
            }
            int n = Integer.parseInt(t);
            if (n < least || n > most) {
                throw new Fault(4, at);
            }
            at += t.length();
            return n;
        }

        Told parse() throws Fault {
            while (!peek().isEmpty()) {
                line();
                take(";");
            }
            return told;
        }

        void line() throws Fault {
            String word = peek();
            boolean many = word.equals("sort") ? told.names.size() == 4
                : word.equals("party") ? told.parties.size() == 12 : !once.add(word);
            if (many || !Arrays.asList("lock", "spring", "latch", "manners", "dark", "curtain", "sort", "party", "draw").contains(word)) {
                throw new Fault(2, at);
            }
            take(word);
            switch (word) {
                case "lock" -> told.seats = number(1, 20);
                case "spring" -> told.spring = new int[] {number(1, 9), number(1, 9)};
                case "latch" -> told.latch = true;
                case "manners" -> told.manners = number(0, 100);
                case "dark" -> told.dark = true;
                case "curtain" -> told.curtain = number(0, 9);
                case "draw" -> told.draw = number(0, 999);
                case "sort" -> sortLine();
                default -> partyLine();
            }
        }

        void sortLine() throws Fault {
            String name = peek();
            if (name.isEmpty() || !Character.isLetter(name.charAt(0)) || WORDS.contains(name)) {
                throw new Fault(2, at);
            }
            if (told.names.contains(name)) {
                throw new Fault(3, at);
            }
            take(name);
            take("birds");
            int birds = number(0, 240);
            take("slips");
            inOne = 0;
            ToIntFunction<Env> e = e(0);
            told.names.add(name);
            told.birds.add(birds);
            told.slips.add(e);
        }

        void partyLine() throws Fault {
            int heads = number(1, 9);
            take("at");
            int second = number(0, 299);
            boolean in = taken("in");
            if (!in) {
                take("out");
            }
            told.parties.add(new Party(heads, second, in, taken("pram")));
        }

        ToIntFunction<Env> e(int within) throws Fault {
            ToIntFunction<Env> left = both(within);
            while (taken("or")) {
                ToIntFunction<Env> a = left;
                ToIntFunction<Env> b = both(within);
                left = x -> a.applyAsInt(x) != 0 | b.applyAsInt(x) != 0 ? 1 : 0;
            }
            return left;
        }

        ToIntFunction<Env> both(int within) throws Fault {
            ToIntFunction<Env> left = one(within);
            while (taken("and")) {
                ToIntFunction<Env> a = left;
                ToIntFunction<Env> b = one(within);
                left = x -> a.applyAsInt(x) != 0 & b.applyAsInt(x) != 0 ? 1 : 0;
            }
            return left;
        }

        ToIntFunction<Env> one(int within) throws Fault {
            if (peek().equals("not")) {
                if (within > 6) {
                    throw new Fault(2, at);
                }
                take("not");
                ToIntFunction<Env> a = one(within + 1);
                return x -> a.applyAsInt(x) == 0 ? 1 : 0;
            }
            ToIntFunction<Env> a = sum(within);
            if (taken("<")) {
                ToIntFunction<Env> b = sum(within);
                return x -> a.applyAsInt(x) < b.applyAsInt(x) ? 1 : 0;
            }
            if (taken(">")) {
                ToIntFunction<Env> b = sum(within);
                return x -> a.applyAsInt(x) > b.applyAsInt(x) ? 1 : 0;
            }
            if (taken("=")) {
                ToIntFunction<Env> b = sum(within);
                return x -> a.applyAsInt(x) == b.applyAsInt(x) ? 1 : 0;
            }
            return a;
        }

        ToIntFunction<Env> sum(int within) throws Fault {
            ToIntFunction<Env> left = term(within);
            while (true) {
                ToIntFunction<Env> a = left;
                if (taken("+")) {
                    ToIntFunction<Env> b = term(within);
                    left = x -> a.applyAsInt(x) + b.applyAsInt(x);
                } else if (taken("-")) {
                    ToIntFunction<Env> b = term(within);
                    left = x -> a.applyAsInt(x) - b.applyAsInt(x);
                } else {
                    return left;
                }
            }
        }

        ToIntFunction<Env> term(int within) throws Fault {
            ToIntFunction<Env> left = unit(within);
            while (true) {
                ToIntFunction<Env> a = left;
                if (taken("*")) {
                    ToIntFunction<Env> b = unit(within);
                    left = x -> a.applyAsInt(x) * b.applyAsInt(x);
                } else if (taken("/")) {
                    ToIntFunction<Env> b = unit(within);
                    left = x -> b.applyAsInt(x) == 0 ? 0 : a.applyAsInt(x) / b.applyAsInt(x);
                } else if (taken("%")) {
                    ToIntFunction<Env> b = unit(within);
                    left = x -> b.applyAsInt(x) == 0 ? 0 : a.applyAsInt(x) % b.applyAsInt(x);
                } else {
                    return left;
                }
            }
        }

        ToIntFunction<Env> unit(int within) throws Fault {
            String t = peek();
            if (inOne == 30 || told.units == 60) {
                throw new Fault(2, at);
            }
            inOne++;
            told.units++;
            switch (t) {
                case "gap": take(t); return Env::gap;
                case "people": take(t); return Env::people;
                case "night": take(t); return Env::night;
                case "veil": take(t); return Env::veil;
                case "week": take(t); return Env::week;
                case "slipped": take(t); return Env::slipped;
                case "(":
                    if (within > 6) {
                        throw new Fault(2, at);
                    }
                    take("(");
                    ToIntFunction<Env> a = e(within + 1);
                    take(")");
                    return a;
                default:
                    int n = number(0, 9999);
                    return x -> n;
            }
        }
    }

    /** One moment. */
    static final class State {
        int second;
        int week;
        int seed;
        int gaps;
        int curtain;
        boolean dark;
        int[] open = new int[2];
        int[][] birds = new int[4][0];
        int[] place = new int[0];
        int[] wait = new int[0];
        List<Integer> outside = new ArrayList<>();
        List<Integer> inside = new ArrayList<>();
        List<Integer> lock = new ArrayList<>();
        List<Integer> board = new ArrayList<>();

        State copy() {
            State s = new State();
            s.second = second;
            s.week = week;
            s.seed = seed;
            s.gaps = gaps;
            s.curtain = curtain;
            s.dark = dark;
            s.open = open.clone();
            s.birds = new int[][] {birds[0].clone(), birds[1].clone(), birds[2].clone(), birds[3].clone()};
            s.place = place.clone();
            s.wait = wait.clone();
            s.outside = new ArrayList<>(outside);
            s.inside = new ArrayList<>(inside);
            s.lock = new ArrayList<>(lock);
            s.board = new ArrayList<>(board);
            return s;
        }

        int allOutside() {
            return Arrays.stream(birds[2]).sum();
        }

        void nextWeek() {
            week++;
            second = 0;
            outside.clear();
            inside.clear();
            lock.clear();
            Arrays.fill(place, 0);
            Arrays.fill(wait, NONE);
            open = new int[2];
        }

        int draw() {
            seed = (seed * 137 + 71) % 1000;
            return seed % 100;
        }
    }

    /** A run of seconds by some rules. */
    final class Walk {
        final State s;
        int seats = told.seats;
        int[] spring = told.spring.clone();
        boolean latch = told.latch;
        int manners = told.manners;
        int[] at = told.parties.stream().mapToInt(Party::at).toArray();
        int seconds;
        int holds;
        int holders;
        int[] opened = new int[2];
        int crossings;
        int[] peak = new int[3];

        Walk(State from) {
            s = from.copy();
        }

        boolean passes(int door, int p) {
            boolean can = s.open[door] > 0 || s.open[1 - door] == 0;
            if (!can && !latch && s.draw() < manners) {
                can = true;
                holds++;
                holders |= 1 << p;
                s.board.add(0, p);
                if (s.board.size() > 20) {
                    s.board.remove(20);
                }
            }
            if (can) {
                s.open[door] = spring[door];
            }
            return can;
        }

        void second() {
            for (int p = 0; p < at.length; p++) {
                if (s.place[p] == 0 && at[p] == s.second) {
                    s.place[p] = 1;
                    (told.parties.get(p).in() ? s.outside : s.inside).add(p);
                }
            }
            for (int d = 0; d < 2; d++) {
                if (s.open[d] > 0) {
                    s.open[d]--;
                }
            }
            leave(true);
            leave(false);
            enter(s.outside, 0);
            enter(s.inside, 1);
            if (s.open[0] > 0 && s.open[1] > 0) {
                s.gaps++;
            }
            for (int d = 0; d < 2; d++) {
                opened[d] += s.open[d] > 0 ? 1 : 0;
            }
            peak[0] = Math.max(peak[0], s.outside.size());
            peak[1] = Math.max(peak[1], s.inside.size());
            peak[2] = Math.max(peak[2], heads(s));
            if (s.lock.stream().map(p -> told.parties.get(p).in()).distinct().count() == 2) {
                crossings++;
            }
            for (int b = 0; b < told.birds.size(); b++) {
                if (s.open[1] > 0) {
                    int go = Math.min(s.birds[0][b], (s.birds[0][b] * odds(s, b) + s.draw()) / 100);
                    s.birds[0][b] -= go;
                    s.birds[1][b] += go;
                }
                if (s.open[0] > 0) {
                    int go = Math.min(s.birds[1][b], (s.birds[1][b] * odds(s, b) + s.draw()) / 100);
                    s.birds[1][b] -= go;
                    s.birds[2][b] += go;
                    s.birds[3][b] += go;
                }
            }
            s.second++;
        }

        void leave(boolean in) {
            for (int p : s.lock) {
                if (told.parties.get(p).in() == in) {
                    if (passes(in ? 1 : 0, p)) {
                        s.lock.remove((Integer) p);
                        s.place[p] = 3;
                    }
                    return;
                }
            }
        }

        void enter(List<Integer> line, int door) {
            if (line.isEmpty()) {
                return;
            }
            int p = line.get(0);
            int free = seats - s.lock.stream().mapToInt(q -> told.parties.get(q).need()).sum();
            if (told.parties.get(p).need() <= free && passes(door, p)) {
                line.remove(0);
                s.lock.add(p);
                s.place[p] = 2;
                s.wait[p] = s.second - at[p];
            }
        }

        boolean over() {
            return Arrays.stream(s.place).allMatch(x -> x == 3);
        }

        Walk day() {
            for (seconds = 0; seconds < 900 && !over(); seconds++) {
                second();
            }
            return this;
        }

        int waits() {
            return Arrays.stream(s.wait).filter(x -> x >= 0).sum();
        }

        int longest() {
            return Arrays.stream(s.wait).filter(x -> x >= 0).max().orElse(0);
        }
    }

    record Count(int sort, int least, int most, int strangers, int told, int[] untold) {
    }

    private final StringBuilder tape = new StringBuilder();
    private Told told = new Told();
    private Fault fault;
    private State now = new State();
    private final List<State> undos = new ArrayList<>();
    private final List<State> redos = new ArrayList<>();
    private final State[] boxes = new State[3];
    private final List<Count> counts = new ArrayList<>();
    private List<Integer> lying = new ArrayList<>();
    private int time;

    int heads(State s) {
        return s.lock.stream().mapToInt(p -> told.parties.get(p).heads()).sum();
    }

    int odds(State s, int b) {
        Env env = new Env(s.open[0] > 0 && s.open[1] > 0 ? 1 : 0, heads(s), s.dark ? 1 : 0, s.curtain, s.week, s.birds[3][b]);
        return Math.max(0, Math.min(100, told.slips.get(b).applyAsInt(env)));
    }

    private void act() {
        undos.add(now.copy());
        if (undos.size() > 40) {
            undos.remove(0);
        }
        redos.clear();
    }

    private boolean isSort(int b) {
        return b >= 0 && b < told.birds.size();
    }

    /** What a call answers; a boolean counts 1 or 0. */
    long call(String name, int[] a) {
        switch (name) {
            case "feed": return feed(a);
            case "end": return end(a[0]);
            case "house": return house();
            case "fault": return a[0] == 0 ? fault == null ? 0 : fault.kind : a[0] == 1 && fault != null ? fault.place : NONE;
            case "sort": return sort(a[0], a[1]);
            case "party": return party(a[0], a[1]);
            case "door": return a[0] == 0 || a[0] == 1 ? now.open[a[0]] : NONE;
            case "line": return a[0] == 0 ? now.outside.size() : a[0] == 1 ? now.inside.size() : a[0] == 2 ? now.lock.size() : NONE;
            case "seconds": return seconds(a[0]);
            case "net": return net(a[0]);
            case "food": return food(a[0], a[1]);
            case "curtain": return curtain(a[0]);
            case "dusk": act(); now.dark = !now.dark; return now.dark ? 1 : 0;
            case "week": return week();
            case "undo": return move(undos, redos);
            case "redo": return move(redos, undos);
            case "image": return image(a[0]);
            case "back": return back(a[0]);
            case "about": return about(a[0]);
            case "board": return a[0] >= 0 && a[0] < now.board.size() ? now.board.get(a[0]) : NONE;
            case "lies": return a[0] >= 0 && a[0] < lying.size() ? lying.get(a[0]) : NONE;
            default: return plan(name, a);
        }
    }

    private long plan(String name, int[] a) {
        Walk d = new Walk(now).day();
        switch (name) {
            case "day": return day(d, a[0]);
            case "then": return isSort(a[0]) && a[1] >= 0 && a[1] < 3 ? d.s.birds[a[1]][a[0]] : NONE;
            case "peak": return a[0] >= 0 && a[0] < 3 ? d.peak[a[0]] : NONE;
            case "stuck": return bits(d);
            case "holds": return d.holds;
            case "holders": return d.holders;
            case "opened": return a[0] == 0 || a[0] == 1 ? d.opened[a[0]] : NONE;
            case "crossings": return d.crossings;
            case "polite": return polite(a[0]);
            case "without": return without(a[0]);
            case "gone": return gone(a[0]);
            case "large": return large(a[0]);
            case "springs": return springs(a[0]);
            case "worth": return worth(a[0]);
            case "order": return order(a[0]);
            case "veils": return veils(a[0]);
            default: return counted(name, a);
        }
    }

    private long counted(String name, int[] a) {
        switch (name) {
            case "chance": return chance(a);
            case "count": return count(a);
            case "untell": return untell(a[0]);
            case "later": return later(a[0]);
            case "span": return span(a[0], a[1], a[2]);
            case "strangers": return isSort(a[0]) ? strangers(a[0], a[1]) : NONE;
            case "lost": return lost(a[0], a[1]);
            default: throw new IllegalArgumentException(name);
        }
    }

    private long feed(int[] a) {
        if (tape.length() > 1580) {
            return NONE;
        }
        for (int n : a) {
            tape.append((char) (n >>> 24)).append((char) (n >> 16 & 255)).append((char) (n >> 8 & 255)).append((char) (n & 255));
        }
        return tape.length();
    }

    private long end(int n) {
        if (n < 0 || n > tape.length()) {
            return NONE;
        }
        tape.setLength(n);
        return n;
    }

    private long house() {
        try {
            told = new Parser(tape.toString()).parse();
        } catch (Fault f) {
            fault = f;
            return NONE;
        }
        fault = null;
        tape.setLength(0);
        now = new State();
        now.seed = told.draw;
        now.curtain = told.curtain;
        now.dark = told.dark;
        int sorts = told.birds.size();
        now.birds = new int[][] {told.birds.stream().mapToInt(x -> x).toArray(), new int[sorts], new int[sorts], new int[sorts]};
        now.place = new int[told.parties.size()];
        now.wait = new int[told.parties.size()];
        Arrays.fill(now.wait, NONE);
        undos.clear();
        redos.clear();
        counts.clear();
        lying.clear();
        Arrays.fill(boxes, null);
        return told.parties.size();
    }

    private long sort(int b, int what) {
        if (!isSort(b) || what < 0 || what > 4) {
            return NONE;
        }
        return what == 4 ? odds(now, b) : now.birds[what][b];
    }

    private long party(int p, int what) {
        if (p < 0 || p >= told.parties.size()) {
            return NONE;
        }
        Party party = told.parties.get(p);
        switch (what) {
            case 0: return now.place[p];
            case 1: return now.wait[p];
            case 2: return party.heads();
            case 3: return party.need();
            case 4: return party.at();
            case 5: return party.in() ? 1 : 0;
            default: return NONE;
        }
    }

    private long seconds(int n) {
        if (n < 0 || n > 300 || now.second + n > 2000) {
            return NONE;
        }
        act();
        Walk w = new Walk(now);
        for (int i = 0; i < n; i++) {
            w.second();
        }
        now = w.s;
        return now.second;
    }

    private long net(int b) {
        if (!isSort(b) || now.open[0] + now.open[1] > 0) {
            return NONE;
        }
        act();
        int n = now.birds[1][b];
        now.birds[0][b] += n;
        now.birds[1][b] = 0;
        return n;
    }

    private long food(int b, int seeds) {
        if (!isSort(b) || seeds < 1 || seeds > 9) {
            return NONE;
        }
        act();
        int n = Math.min(now.birds[2][b], (now.birds[2][b] * 10 * seeds + now.draw()) / 100);
        now.birds[2][b] -= n;
        now.birds[0][b] += n;
        return n;
    }

    private long curtain(int n) {
        if (n < 0 || n > 9) {
            return NONE;
        }
        act();
        int was = now.curtain;
        now.curtain = n;
        return was;
    }

    private long week() {
        if (now.week == 999) {
            return NONE;
        }
        act();
        now.nextWeek();
        return now.week;
    }

    private long move(List<State> from, List<State> to) {
        if (from.isEmpty()) {
            return 0;
        }
        to.add(now);
        now = from.remove(from.size() - 1);
        return 1;
    }

    private long image(int box) {
        if (box < 0 || box > 2) {
            return NONE;
        }
        boxes[box] = now.copy();
        return now.second;
    }

    private long back(int box) {
        if (box < 0 || box > 2 || boxes[box] == null) {
            return NONE;
        }
        now = boxes[box].copy();
        undos.clear();
        redos.clear();
        return now.second;
    }

    private long about(int what) {
        int taken = now.lock.stream().mapToInt(p -> told.parties.get(p).need()).sum();
        int[] all = {told.parties.size(), told.birds.size(), now.second, now.week, now.seed, told.seats, taken, now.curtain,
            now.dark ? 1 : 0, told.latch ? 1 : 0, told.manners, now.gaps, undos.size(), redos.size(), counts.size(), time,
            tape.length(), told.units, lying.size()};
        return what >= 0 && what < all.length ? all[what] : NONE;
    }

    private long day(Walk d, int what) {
        switch (what) {
            case 0: return d.over() ? d.seconds : NONE;
            case 1: return d.longest();
            case 2: return d.waits();
            case 3: return d.s.gaps;
            case 4: return d.s.allOutside();
            case 5:
                int heads = 0;
                for (int p = 0; p < d.s.place.length; p++) {
                    heads += d.s.place[p] == 3 ? told.parties.get(p).heads() : 0;
                }
                return heads;
            default: return NONE;
        }
    }

    private int bits(Walk d) {
        int bits = 0;
        for (int p = 0; p < d.s.place.length; p++) {
            bits |= d.s.place[p] == 3 ? 0 : 1 << p;
        }
        return bits;
    }

    private long polite(int n) {
        for (int m = 100; m >= 0 && n >= 0; m--) {
            Walk d = new Walk(now);
            d.manners = m;
            if (d.day().s.allOutside() <= n) {
                return m;
            }
        }
        return NONE;
    }

    private long without(int what) {
        int[] best = null;
        for (int p = 0; p < now.place.length; p++) {
            if (now.place[p] == 0) {
                Walk d = new Walk(now);
                d.s.place[p] = 3;
                int waits = d.day().waits();
                if (best == null || waits < best[1]) {
                    best = new int[] {p, waits};
                }
            }
        }
        return best == null || what < 0 || what > 1 ? NONE : best[what];
    }

    private long gone(int b) {
        if (!isSort(b)) {
            return NONE;
        }
        State s = now;
        for (int weeks = 0; weeks <= 20; weeks++) {
            if (s.birds[0][b] == 0) {
                return weeks;
            }
            Walk d = new Walk(s);
            d.s.nextWeek();
            s = d.day().s;
            if (s.week > 999) {
                return NONE;
            }
        }
        return NONE;
    }

    private long large(int wait) {
        for (int seats = 1; seats <= 20 && wait >= 0 && wait < 1000; seats++) {
            Walk d = new Walk(now);
            d.seats = seats;
            if (d.day().over() && d.longest() <= wait) {
                return seats;
            }
        }
        return NONE;
    }

    private long springs(int what) {
        int[] best = null;
        for (int outer = 1; outer <= 4; outer++) {
            for (int inner = 1; inner <= 4; inner++) {
                Walk d = new Walk(now);
                d.spring = new int[] {outer, inner};
                d.day();
                int[] row = {outer, inner, d.s.allOutside(), d.waits()};
                if (best == null || row[2] < best[2] || row[2] == best[2] && row[3] < best[3]) {
                    best = row;
                }
            }
        }
        return what >= 0 && what < 3 ? best[what] : NONE;
    }

    private long worth(int what) {
        if (what < 0 || what > 2) {
            return -1000000;
        }
        Walk with = new Walk(now);
        Walk bare = new Walk(now);
        if (what == 0) {
            with.latch = true;
            bare.latch = false;
        } else if (what == 1) {
            with.s.dark = true;
            bare.s.dark = false;
        } else {
            with.s.curtain = 9;
            bare.s.curtain = 0;
        }
        return bare.day().s.allOutside() - with.day().s.allOutside();
    }

    private static void orders(List<Integer> head, List<Integer> rest, List<List<Integer>> all) {
        if (rest.isEmpty()) {
            all.add(head);
        }
        for (Integer p : rest) {
            List<Integer> longer = new ArrayList<>(head);
            longer.add(p);
            List<Integer> fewer = new ArrayList<>(rest);
            fewer.remove(p);
            orders(longer, fewer, all);
        }
    }

    private long order(int n) {
        lying = new ArrayList<>();
        List<Integer> those = new ArrayList<>();
        for (int p = 0; p < now.place.length && those.size() < n; p++) {
            if (now.place[p] == 0) {
                those.add(p);
            }
        }
        if (n < 2 || n > 5 || those.size() < n) {
            return NONE;
        }
        List<List<Integer>> all = new ArrayList<>();
        orders(new ArrayList<>(), those, all);
        int best = Integer.MAX_VALUE;
        for (List<Integer> row : all) {
            Walk d = new Walk(now);
            for (int i = 0; i < n; i++) {
                d.at[row.get(i)] = told.parties.get(those.get(i)).at();
            }
            int waits = d.day().waits();
            if (waits < best) {
                best = waits;
                lying = row;
            }
        }
        return best;
    }

    private long veils(int n) {
        lying = new ArrayList<>();
        if (n < 1 || n > 4 || now.week + n > 999) {
            return NONE;
        }
        int rows = (int) Math.pow(3, n);
        int best = Integer.MAX_VALUE;
        for (int r = 0; r < rows; r++) {
            List<Integer> row = new ArrayList<>();
            for (int rest = r, i = 0; i < n; i++, rest /= 3) {
                row.add(0, rest % 3);
            }
            State s = now;
            for (int veil : row) {
                Walk d = new Walk(s);
                d.s.curtain = veil;
                d.s.nextWeek();
                s = d.day().s;
            }
            if (s.allOutside() < best) {
                best = s.allOutside();
                lying = row;
            }
        }
        return best;
    }

    private long chance(int[] a) {
        if (!isSort(a[0]) || a[1] < 0 || a[1] > 4 || a[2] < 0 || a[2] > 4 || a[3] < 0 || a[3] > 1) {
            return NONE;
        }
        java.math.BigInteger hundred = java.math.BigInteger.valueOf(100);
        java.math.BigInteger stays = java.math.BigInteger.valueOf(100 - odds(now, a[0]));
        java.math.BigInteger upper = hundred.pow(a[1]).subtract(stays.pow(a[1])).multiply(hundred.pow(a[2]).subtract(stays.pow(a[2])));
        java.math.BigInteger lower = hundred.pow(a[1] + a[2]);
        java.math.BigInteger shared = upper.gcd(lower);
        return (a[3] == 0 ? upper : lower).divide(shared).longValueExact();
    }

    private long count(int[] a) {
        boolean ok = isSort(a[0]) && a[1] >= 0 && a[1] <= 480 && a[2] >= a[1] && a[2] <= 480 && a[3] >= 0 && a[3] <= a[2];
        if (!ok || counts.size() == 30) {
            return NONE;
        }
        counts.add(new Count(a[0], a[1], a[2], a[3], time, new int[] {Integer.MAX_VALUE}));
        return counts.size() - 1;
    }

    private long untell(int i) {
        if (i < 0 || i >= counts.size() || counts.get(i).untold()[0] != Integer.MAX_VALUE) {
            return 0;
        }
        counts.get(i).untold()[0] = time;
        return 1;
    }

    private long later(int by) {
        if (by < 0 || by > 1000 || time + by > 100000) {
            return NONE;
        }
        time += by;
        return time;
    }

    private List<Count> known(int b, int k) {
        List<Count> all = new ArrayList<>();
        for (Count c : counts) {
            boolean untold = c.untold()[0] != Integer.MAX_VALUE && c.untold()[0] <= k;
            if (c.sort() == b && c.told() <= k && !untold) {
                all.add(c);
            }
        }
        return all;
    }

    private List<Integer> numbers(int b, int k) {
        List<Integer> all = new ArrayList<>();
        for (int n = 0; n <= 480; n++) {
            int number = n;
            if (known(b, k).stream().allMatch(c -> c.least() <= number && number <= c.most())) {
                all.add(n);
            }
        }
        return all;
    }

    private long span(int b, int what, int k) {
        if (!isSort(b) || what < 0 || what > 2) {
            return NONE;
        }
        List<Integer> all = numbers(b, k);
        if (what == 2) {
            return all.size();
        }
        return all.isEmpty() ? NONE : what == 0 ? all.get(0) : all.get(all.size() - 1);
    }

    private int strangers(int b, int k) {
        return known(b, k).stream().mapToInt(Count::strangers).max().orElse(NONE);
    }

    private long lost(int b, int k) {
        if (!isSort(b) || numbers(b, k).isEmpty()) {
            return NONE;
        }
        List<Integer> all = numbers(b, k);
        int own = Math.max(0, all.get(all.size() - 1) - Math.max(0, strangers(b, k)));
        return Math.max(0, told.birds.get(b) - own);
    }
}
