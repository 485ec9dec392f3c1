import java.util.Random;

/** The edges of plans: promises 26 to 34 and 36. */
final class PlanEdges extends Edges {
    private static final int[] NO_WHAT = {-1, LEAST, MOST};
    private static final String ONE_OUT = "spring 1 1;party 1 at 0 out;";

    PlanEdges(Check check, Doc doc) {
        super(check, doc);
    }

    @Override
    void run() {
        polite();
        politeRefused();
        without();
        withoutRefused();
        gone();
        goneRefused();
        leastLock();
        large();
        bestSprings();
        springs();
        worth();
        bestOrder();
        order();
        bestVeils();
        veils();
        lastVeils();
        oneBird();
        chance();
        lies();
    }

    private void polite() {
        promise(26, "The greatest manners (0 .. 100, in place of those told) by which no more than n are OUTSIDE behind DAY;");
        // Who goes out draws in second 0; if that is below manners both doors are open and all ten get out.
        String lines = "lock 9;spring 1 1;sort a birds 10 slips gap*100;party 1 at 0 in;party 1 at 0 out;";
        int[] draws = {17, 44, 0};
        int[] first = {0, 99, 71};
        for (int i = 0; i < 3; i++) {
            for (int manners : new int[] {0, 50, 100}) {
                AviaryLock x = Texts.with("draw " + draws[i] + ";manners " + manners + ";" + lines);
                due("none outside, a draw of " + first[i] + ", manners " + manners, x.polite(0), first[i]);
                due("nine outside at most", x.polite(9), first[i]);
                due("ten outside at most", x.polite(10), 100);
                due("any", x.polite(MOST), 100);
                due("manners as told", x.about(10), manners);
            }
        }
        due("nobody", new AviaryLock().polite(0), 100);
        due("a latch", Texts.with("latch;" + lines).polite(0), 100);
    }

    private void politeRefused() {
        promise(26, "NONE if by none, or n is below 0.");
        AviaryLock x = Texts.with("sort a birds 10 slips 100;" + ONE_OUT);
        due("nine at most, ten by any", x.polite(9), NONE);
        due("none at most", x.polite(0), NONE);
        due("ten at most", x.polite(10), 100);
        for (int n : new int[] {-1, LEAST}) {
            leaves("polite(" + n + ")", Edges::busy, y -> y.polite(n), NONE);
            due("polite(" + n + ") of nobody", new AviaryLock().polite(n), NONE);
        }
    }

    private void without() {
        promise(27, "The PARTY that did not come yet without which (as if it were through already, ahead of now) WAITS of all others together "
            + "behind DAY are fewest what 0: the PARTY, 1: these WAITS; of like ones the first;");
        // One seat, springs of 1: the second of those at 0 waits for two seconds.
        AviaryLock x = Texts.with("lock 1;spring 1 1;party 1 at 9 in;party 1 at 0 in;party 1 at 0 in;");
        due("the first of two that are in one another's way", x.without(0), 1);
        due("the waits then", x.without(1), 0);
        x.seconds(1);
        due("they came, so that it is the one left", x.without(0), 0);
        due("the waits of the others", x.without(1), 2);
        due("one alone that never gets in", Texts.with("party 9 at 0 in;").without(0), 0);
        due("no waits of no others", Texts.with("party 9 at 0 in;").without(1), 0);
        due("of like ones the first", Texts.with("party 1 at 20 in;party 1 at 0 in;party 1 at 40 in;").without(0), 0);
        // Nine in a lock of nine, in the way of both that come a second later; one of these waits a second for the other.
        StringBuilder text = new StringBuilder("lock 9;latch;spring 9 9;");
        for (int i = 0; i < 10; i++) {
            text.append("party 1 at ").append(20 * i).append(" in;");
        }
        AviaryLock twelve = Texts.with(text + "party 1 at 20 in;party 9 at 19 in;");
        due("the last of twelve", twelve.without(0), 11);
        due("the waits without it", twelve.without(1), 1);
    }

    private void withoutRefused() {
        promise(27, "NONE if there is none, or for another what.");
        due("nobody", new AviaryLock().without(0), NONE);
        due("nobody, waits", new AviaryLock().without(1), NONE);
        AviaryLock x = Texts.with("party 1 at 0 in;party 1 at 1 in;");
        x.seconds(1);
        due("one is left", x.without(0), 1);
        x.seconds(1);
        due("all came", x.without(0), NONE);
        due("all came, waits", x.without(1), NONE);
        leaves("without(2)", Edges::busy, y -> y.without(2), NONE);
        for (int what : NO_WHAT) {
            leaves("without(" + what + ")", Edges::busy, y -> y.without(what), NONE);
        }
    }

    private static AviaryLock goneFrom(String when) {
        return Texts.with("sort z birds 5 slips 0;sort a birds 9 slips 100*(week" + when + ");" + ONE_OUT);
    }

    private void gone() {
        promise(28, "Behind how many WEEKS (0: now; 20 at most; each: a WEEK, DAY) none of a SORT is WITHIN;");
        due("none told", Texts.with("sort a birds 0 slips 0;").gone(0), 0);
        AviaryLock x = goneFrom(">0");
        due("in the first week", x.gone(1), 1);
        AviaryLock now = Texts.with("sort a birds 9 slips 100;" + ONE_OUT);
        due("behind a week though a second would do", now.gone(0), 1);
        now.seconds(1);
        due("none within now, though not outside", now.gone(0), 0);
        due("in the 19th", goneFrom(">18").gone(1), 19);
        due("in the 20th", goneFrom(">19").gone(1), 20);
        AviaryLock late = goneFrom(">20");
        due("in the 21st", late.gone(1), NONE);
        late.week();
        due("in the 21st, from the first on", late.gone(1), 20);
        due("in one week alone", goneFrom("=7").gone(1), 7);
    }

    private void goneRefused() {
        promise(28, "NONE if not by these, if the week would be above 999, or there is no such SORT.");
        due("never", goneFrom(">0").gone(0), NONE);
        due("nobody comes", Texts.with("sort a birds 1 slips 100;").gone(0), NONE);
        for (int sort : new int[] {-1, 2, 4, LEAST, MOST}) {
            leaves("gone(" + sort + ")", Edges::busy, y -> y.gone(sort), NONE);
        }
        due("gone(0) of an empty house", new AviaryLock().gone(0), NONE);
        // No run of 512 calls comes to these weeks; the class keeps to them all the same.
        AviaryLock x = Texts.with("sort a birds 9 slips 100*(week>998);sort b birds 9 slips 0;sort c birds 0 slips 0;" + ONE_OUT);
        for (int i = 0; i < 979; i++) {
            x.week();
        }
        due("in the 20th, 999", x.gone(0), 20);
        for (int i = 0; i < 19; i++) {
            x.week();
        }
        due("in the last", x.gone(0), 1);
        due("not by the last", x.gone(1), NONE);
        x.week();
        due("no week more", x.gone(0), NONE);
        due("none now", x.gone(2), 0);
    }

    private void leastLock() {
        terms("LARGE for a WAIT: the least lock (1 .. 20 SEATS) by which all come through and none has a longer WAIT.");
        due("nobody", new AviaryLock().large(0), 1);
        due("one head", Texts.with("lock 20;party 1 at 0 in;").large(0), 1);
        due("as many as there can be of one party", Texts.with("lock 1;party 9 at 0 in pram;").large(0), 11);
        due("twenty", Texts.with("party 9 at 0 in pram;party 9 at 1 in;").large(0), 20);
        due("twenty-one", Texts.with("party 9 at 0 in pram;party 8 at 1 in pram;").large(0), NONE);
        due("twenty-one by a wait", Texts.with("party 9 at 0 in pram;party 8 at 1 in pram;").large(999), 11);
        // Springs of 2: with two seats the second enters by the open door in second 1, with one in second 4.
        AviaryLock x = Texts.with("party 1 at 0 in;party 1 at 0 in;");
        int[] want = {NONE, 2, 2, 2, 1, 1};
        for (int wait = 0; wait < want.length; wait++) {
            due("large(" + wait + ")", x.large(wait), want[wait]);
        }
        x.seconds(6);
        due("a wait that was too long is so", x.large(0), NONE);
        due("a wait that was just so", x.large(1), 1);
    }

    private void large() {
        promise(29, "LARGE (a WAIT 0 .. 999);");
        due("large(0)", Texts.with("party 3 at 0 in;").large(0), 3);
        due("large(999)", Texts.with("party 3 at 0 in;").large(999), 3);
        promise(29, "NONE if 20 SEATS are not enough, or for another WAIT.");
        // One each second by one door: the third waits for two seconds whatever the lock.
        AviaryLock three = Texts.with("party 1 at 0 in;".repeat(3));
        due("not by a wait of 1", three.large(1), NONE);
        due("by a wait of 2", three.large(2), 3);
        AviaryLock far = Texts.with("party 5 at 0 in;");
        for (int i = 0; i < 4; i++) {
            far.seconds(300);
        }
        // It waits for 1200 seconds already.
        due("not by a wait of 999", far.large(999), NONE);
        for (int wait : new int[] {-1, 1000, LEAST, MOST}) {
            leaves("large(" + wait + ")", Edges::busy, y -> y.large(wait), NONE);
            due("large(" + wait + ") of nobody", new AviaryLock().large(wait), NONE);
        }
    }

    private void dueSprings(String text, int outer, int inner) {
        AviaryLock x = Texts.with(text);
        due("outer, " + text, x.springs(0), outer);
        due("inner, " + text, x.springs(1), inner);
    }

    private void bestSprings() {
        terms("SPRINGS: of 1 .. 4 for each DOOR those by which, behind DAY, fewest are OUTSIDE;");
        AviaryLock x = Texts.with("spring 9 9;lock 9;sort a birds 100 slips 50;party 1 at 0 out;party 1 at 1 out;");
        due("outer", x.springs(0), 1);
        due("inner, though one waits by it", x.springs(1), 1);
        terms("of like ones the least WAITS together;");
        // Two by the open door, and a third that finds it open still in its last second.
        dueSprings("party 1 at 0 in;party 1 at 1 in;party 1 at 4 in;", 4, 1);
        dueSprings("party 1 at 0 out;party 1 at 1 out;party 1 at 4 out;", 1, 4);
        // A spring of 5 would let the fourth in without a wait, but it can't be one of these.
        dueSprings("party 1 at 0 in;party 1 at 1 in;party 1 at 2 in;party 1 at 6 in;", 2, 1);
        due("waits by these", Texts.with("spring 2 1;party 1 at 0 in;party 1 at 1 in;party 1 at 2 in;party 1 at 6 in;").day(2), 1);
        due("waits by 5", Texts.with("spring 5 1;party 1 at 0 in;party 1 at 1 in;party 1 at 2 in;party 1 at 6 in;").day(2), 0);
        terms("of like ones the first (outer, then inner).");
        dueSprings("", 1, 1);
        dueSprings("spring 9 9;party 1 at 0 in;party 1 at 200 out;", 1, 1);
        // Either door's spring of 2 does for the two that go in; the inner one stays at 1.
        dueSprings("party 1 at 0 in;party 1 at 1 in;", 2, 1);
    }

    private void springs() {
        promise(30, "SPRINGS what 0: outer, 1: inner, 2: OUTSIDE then;");
        // Draws 71 and 98 by springs of 1: 50 between, (2500 + 98) / 100 outside.
        AviaryLock x = Texts.with("spring 9 9;sort a birds 100 slips 50;party 1 at 0 out;");
        int[] want = {1, 1, 25};
        for (int what = 0; what < 3; what++) {
            due("springs(" + what + ")", x.springs(what), want[what]);
        }
        due("none outside", new AviaryLock().springs(2), 0);
        promise(30, "NONE for another what.");
        leaves("springs(3)", Edges::busy, y -> y.springs(3), NONE);
        for (int what : NO_WHAT) {
            leaves("springs(" + what + ")", Edges::busy, y -> y.springs(what), NONE);
        }
    }

    private void worth() {
        terms("WORTH of a latch, of dark, of a curtain of 9: how many more are OUTSIDE behind DAY without it (a curtain of 0) than with it, all else as it is.");
        String gap = "manners 100;sort a birds 10 slips 100*gap;party 1 at 0 in;";
        due("a latch, not told", Texts.with(gap).worth(0), 10);
        due("a latch, told", Texts.with("latch;" + gap).worth(0), 10);
        due("a latch that harms", Texts.with("manners 100;lock 9;spring 1 1;sort a birds 10 slips 100*(not gap);party 1 at 0 in;party 1 at 0 out;").worth(0), -10);
        String dark = "sort a birds 10 slips 100-night*100;" + ONE_OUT;
        due("dark, in the light", Texts.with(dark).worth(1), 10);
        due("dark, in the dark", Texts.with("dark;" + dark).worth(1), 10);
        due("dark that harms", Texts.with("sort a birds 10 slips night*100;" + ONE_OUT).worth(1), -10);
        for (int curtain : new int[] {0, 5, 9}) {
            due("a curtain of 9, now one of " + curtain, Texts.with("curtain " + curtain + ";sort a birds 10 slips 100*(veil<9);" + ONE_OUT).worth(2), 10);
            due("a curtain of 0, now one of " + curtain, Texts.with("curtain " + curtain + ";sort a birds 10 slips 100*(veil>0);" + ONE_OUT).worth(2), -10);
        }
        due("a curtain of 0 is not below 0", Texts.with("curtain 4;sort a birds 10 slips 100*(veil=0);" + ONE_OUT).worth(2), 10);
        promise(31, "WORTH of a latch (0), of dark (1), of a curtain (2);");
        AviaryLock x = Texts.with("manners 100;sort a birds 10 slips 100*gap;party 1 at 0 in;");
        due("worth(0)", x.worth(0), 10);
        due("worth(1)", x.worth(1), 0);
        due("worth(2)", x.worth(2), 0);
        due("of nobody", new AviaryLock().worth(0), 0);
        promise(31, "-1000000 for another what.");
        leaves("worth(3)", Edges::busy, y -> y.worth(3), -1000000);
        for (int what : NO_WHAT) {
            leaves("worth(" + what + ")", Edges::busy, y -> y.worth(what), -1000000);
        }
    }

    private void lying(String name, AviaryLock x, int... want) {
        due(name + ", numbers that lie there", x.about(18), want.length);
        for (int i = 0; i < want.length; i++) {
            due(name + ", lies(" + i + ")", x.lies(i), want[i]);
        }
        due(name + ", none more", x.lies(want.length), NONE);
    }

    private void bestOrder() {
        terms("ORDER of n PARTIES (2 .. 5) that did not come yet, the first ones by number, all at the SECONDS told for these, "
            + "but in another order among them (the i-th of the row at the SECOND told for the i-th of these):");
        // One seat, springs of 1. One that goes out can enter by the inner door that one who goes in has just passed.
        AviaryLock x = Texts.with("lock 1;spring 1 1;party 1 at 0 in;party 1 at 1 in;party 1 at 9 out;");
        due("the third can't help among two", x.order(2), 1);
        lying("two", x, 0, 1);
        due("among three", x.order(3), 0);
        lying("three", x, 0, 2, 1);
        // Told for 11, 10, 30: two that go in would cost a second each; those that came are not asked.
        AviaryLock y = Texts.with("lock 1;spring 1 1;party 1 at 0 in;party 1 at 0 in;party 1 at 11 in;party 1 at 5 in;party 1 at 10 in;party 1 at 30 out;");
        y.seconds(6);
        due("those left", y.order(3), 2);
        lying("those left", y, 2, 5, 4);
        terms("that by which WAITS together behind DAY are fewest;");
        AviaryLock z = Texts.with("lock 5;spring 3 3;manners 46;party 1 at 20 out;party 3 at 19 out;party 5 at 8 out;party 1 at 16 in;party 4 at 18 in;");
        due("waits as told", z.day(2), 4);
        due("waits by the last of all rows", z.order(5), 0);
        lying("the last of all rows", z, 4, 3, 2, 1, 0);
        allRows("lock 3;spring 2 1;latch;", 3, 12);
        allRows("lock 3;spring 1 2;manners 50;", 4, 34);
        allRows("lock 4;spring 3 3;manners 30;draw 7;", 5, 56);
        terms("of like ones the first (by numbers).");
        AviaryLock like = Texts.with("party 1 at 50 in;party 1 at 40 in;party 1 at 30 in;party 1 at 20 in;party 1 at 10 in;");
        for (int n = 2; n <= 5; n++) {
            due("order(" + n + ")", like.order(n), 0);
            due("numbers", like.about(18), n);
            for (int i = 0; i < n; i++) {
                due("order(" + n + "), lies(" + i + ")", like.lies(i), i);
            }
        }
    }

    private static String partiesAt(int[] told, int[] row, int[] heads) {
        StringBuilder text = new StringBuilder();
        for (int party = 0; party < told.length; party++) {
            int place = 0;
            while (row[place] != party) {
                place++;
            }
            text.append("party ").append(Math.abs(heads[party])).append(" at ").append(told[place]).append(heads[party] < 0 ? " out;" : " in;");
        }
        return text.toString();
    }

    /** Houses by told seeds, each with all rows of its parties told in texts of their own: the first of the best is the answer. */
    private void allRows(String lines, int n, int seed) {
        Random random = new Random(seed);
        for (int house = 0; house < 30; house++) {
            int[] told = random.ints(n, 0, 9).toArray();
            // Those that go out have heads below 0 here.
            int[] heads = random.ints(n, 1, 4).map(h -> random.nextBoolean() ? h : -h).toArray();
            int[] row = new int[n];
            int[] best = new int[n];
            int fewest = MOST;
            for (int number = 0; number < Math.pow(n, n); number++) {
                int rest = number;
                int bits = 0;
                for (int i = n - 1; i >= 0; i--) {
                    row[i] = rest % n;
                    bits |= 1 << row[i];
                    rest /= n;
                }
                int waits = bits + 1 == 1 << n ? Texts.with(lines + partiesAt(told, row, heads)).day(2) : MOST;
                if (waits < fewest) {
                    fewest = waits;
                    best = row.clone();
                }
            }
            for (int i = 0; i < n; i++) {
                row[i] = i;
            }
            AviaryLock x = Texts.with(lines + partiesAt(told, row, heads));
            due("order(" + n + ") of house " + house, x.order(n), fewest);
            lying("house " + house, x, best);
        }
    }

    private void order() {
        promise(32, "ORDER (n 2 .. 5): WAITS together;");
        AviaryLock x = Texts.with("lock 1;spring 1 1;party 1 at 0 in;party 1 at 0 in;party 1 at 0 in;party 1 at 0 in;party 1 at 0 in;");
        for (int n = 2; n <= 5; n++) {
            due("order(" + n + ") of five", x.order(n), 2 + 4 + 6 + 8);
        }
        promise(32, "NONE if there are not so many, or for another n.");
        for (int n : new int[] {1, 0, 6, -1, LEAST, MOST}) {
            due("order(" + n + ") of five", x.order(n), NONE);
        }
        AviaryLock twelve = Texts.with("party 1 at 0 in;".repeat(12));
        due("order(5) of twelve", twelve.order(5) != NONE, true);
        due("order(6) of twelve", twelve.order(6), NONE);
        due("order(12) of twelve", twelve.order(12), NONE);
        AviaryLock four = Texts.with("party 1 at 0 in;party 1 at 1 in;party 1 at 2 in;party 1 at 3 in;");
        for (int came = 0; came <= 4; came++) {
            for (int n = 2; n <= 5; n++) {
                due("order(" + n + ") of " + (4 - came), four.order(n) != NONE, n <= 4 - came);
            }
            four.seconds(1);
        }
        due("order(2) of nobody", new AviaryLock().order(2), NONE);
        promise(32, "PARTIES lie there then, in that order (behind NONE: nothing).");
        x.order(5);
        lying("five", x, 0, 1, 2, 3, 4);
        x.order(2);
        lying("two", x, 0, 1);
        x.order(6);
        lying("none behind order(6)", x);
        x.veils(4);
        x.order(1);
        lying("none behind veils(4) and order(1)", x);
        four.veils(2);
        four.order(2);
        lying("none if there are not so many", four);
        AviaryLock all = after(Edges::busy);
        AviaryLock spared = after(Edges::busy);
        all.order(6);
        spared.order(1);
        same("nothing else is done", Looks.all(all), Looks.all(spared));
    }

    private void bestVeils() {
        terms("VEILS for n WEEKS (1 .. 4): a curtain of 0 .. 2 for each, from a WEEK begun now on "
            + "(the curtain, WEEK, DAY, the next curtain, WEEK, DAY ..), by which fewest are OUTSIDE at last;");
        for (int best = 0; best <= 3; best++) {
            AviaryLock x = Texts.with("curtain 9;sort a birds 10 slips 100*(not veil=" + best + ");" + ONE_OUT);
            due("one week by a curtain of " + best, x.veils(1), best < 3 ? 0 : 10);
            lying("one week by " + best, x, best < 3 ? best : 0);
        }
        AviaryLock y = Texts.with("sort a birds 10 slips 100-100*(veil=week%3);" + ONE_OUT);
        due("four weeks", y.veils(4), 0);
        lying("four weeks", y, 1, 2, 0, 1);
        y.week();
        due("from week 1 on", y.veils(3), 0);
        lying("from week 1 on", y, 2, 0, 1);
        y.seconds(1);
        due("whoever is in the lock is gone in a week begun now", y.veils(1), 0);
        due("the last of all rows", Texts.with("sort a birds 10 slips 100-50*veil;" + ONE_OUT).veils(4), 0);
        AviaryLock z = Texts.with("sort a birds 10 slips 100-50*veil;" + ONE_OUT);
        z.veils(4);
        lying("the last of all rows", z, 2, 2, 2, 2);
        AviaryLock behind = Texts.with("sort a birds 10 slips 100*(veil>0);" + ONE_OUT + "party 1 at 1 in;party 1 at 2 in;party 1 at 3 in;party 1 at 4 in;");
        behind.order(5);
        due("behind order(5)", behind.veils(2), 0);
        lying("behind order(5)", behind, 0, 0);
        terms("of like ones the first (WEEK by WEEK).");
        AviaryLock like = Texts.with("curtain 7;sort a birds 10 slips 100;" + ONE_OUT);
        due("alike", like.veils(4), 10);
        lying("alike", like, 0, 0, 0, 0);
        AviaryLock last = Texts.with("sort a birds 10 slips 100*(week=2 and veil<1);" + ONE_OUT);
        due("the second week alone tells", last.veils(3), 0);
        lying("the second week alone", last, 0, 1, 0);
    }

    private void veils() {
        promise(33, "VEILS: how many are OUTSIDE;");
        AviaryLock x = Texts.with("sort a birds 10 slips 100;sort b birds 5 slips 100-veil*50;" + ONE_OUT);
        for (int n = 1; n <= 4; n++) {
            due("veils(" + n + ")", x.veils(n), 10);
        }
        due("of nobody", new AviaryLock().veils(1), 0);
        promise(33, "Curtains lie there then (behind NONE: nothing).");
        for (int n = 1; n <= 4; n++) {
            x.veils(n);
            due("curtains of " + n, x.about(18), n);
            due("the last of " + n, x.lies(n - 1), 2);
            due("none behind it", x.lies(n), NONE);
        }
        for (int n : new int[] {0, 5, -1, LEAST, MOST}) {
            x.veils(2);
            due("veils(" + n + ")", x.veils(n), NONE);
            lying("behind veils(" + n + ")", x);
        }
        AviaryLock y = Texts.with("party 1 at 0 in;party 1 at 9 in;");
        y.order(2);
        y.veils(5);
        lying("behind order(2) and veils(5)", y);
        AviaryLock all = after(Edges::busy);
        AviaryLock spared = after(Edges::busy);
        all.veils(5);
        spared.order(1);
        same("nothing else is done", Looks.all(all), Looks.all(spared));
    }

    /** No run of 512 calls comes to these weeks; the class keeps to them all the same. */
    private void lastVeils() {
        promise(33, "NONE for another n, or if the week would be above 999.");
        AviaryLock x = Texts.with("sort a birds 9 slips 100*(week=999);" + ONE_OUT);
        for (int i = 0; i < 995; i++) {
            x.week();
        }
        for (int week = 995; week <= 999; week++) {
            for (int n = 0; n <= 5; n++) {
                boolean canBe = n >= 1 && n <= 4 && week + n <= 999;
                due("veils(" + n + ") in week " + week, x.veils(n), canBe ? week + n == 999 ? 9 : 0 : NONE);
                due("numbers that lie there", x.about(18), canBe ? n : 0);
            }
            x.week();
        }
    }

    private void dueChance(int odds, int a, int b, long upper, long lower) {
        AviaryLock x = Texts.with("sort z birds 1 slips 33;sort a birds 1 slips " + odds + ";");
        String name = "odds " + odds + ", " + a + " and " + b + " seconds";
        due(name + ", upper", x.chance(1, a, b, 0), upper);
        due(name + ", lower", x.chance(1, a, b, 1), lower);
    }

    private void oneBird() {
        terms("CHANCE of one bird of a SORT by ODDS as they are now, the inner DOOR open for a SECONDS, then the outer one for b: that it gets OUTSIDE: "
            + "1 less what is left WITHIN, times 1 less what is left BETWEEN, each SECOND by 100.");
        dueChance(50, 1, 1, 1, 4);
        dueChance(50, 2, 1, 3, 8);
        dueChance(50, 1, 2, 3, 8);
        dueChance(20, 2, 1, 9, 125);
        dueChance(10, 1, 1, 1, 100);
        AviaryLock x = Texts.with("sort a birds 0 slips 50*night;");
        due("none in the light, though there are no birds", x.chance(0, 1, 1, 0), 0);
        x.dusk();
        due("in the dark", x.chance(0, 1, 1, 1), 4);
        AviaryLock y = Texts.with("manners 100;sort a birds 9 slips 50*gap;party 1 at 0 in;");
        y.seconds(2);
        due("while both doors are open", y.chance(0, 1, 1, 1), 4);
    }

    private void chance() {
        promise(34, "CHANCE (a, b 0 .. 4 SECONDS) the upper part (0), the lower part (1), in lowest terms (0 of 1);");
        // 100 ^ 4 - 99 ^ 4 is 3940399, which neither 2 nor 5 divides.
        dueChance(1, 4, 4, 3940399L * 3940399L, 10000000000000000L);
        dueChance(99, 4, 4, 99999999L * 99999999L, 10000000000000000L);
        dueChance(50, 4, 4, 225, 256);
        dueChance(100, 4, 4, 1, 1);
        dueChance(100, 1, 1, 1, 1);
        dueChance(0, 4, 4, 0, 1);
        dueChance(0, 0, 0, 0, 1);
        dueChance(100, 0, 4, 0, 1);
        dueChance(100, 4, 0, 0, 1);
        dueChance(100, 0, 0, 0, 1);
        promise(34, "NONE if one can't be.");
        int[][] wrong = {{2, 1, 1, 0}, {4, 1, 1, 0}, {-1, 1, 1, 0}, {LEAST, 1, 1, 0}, {MOST, 1, 1, 0}, {0, 5, 1, 0}, {0, -1, 1, 0}, {0, LEAST, 1, 0},
            {0, MOST, 1, 0}, {0, 1, 5, 0}, {0, 1, -1, 1}, {0, 1, LEAST, 1}, {0, 1, MOST, 1}, {0, 1, 1, 2}, {0, 1, 1, -1}, {0, 1, 1, LEAST}, {0, 1, 1, MOST}};
        for (int[] w : wrong) {
            leaves("chance(" + w[0] + ", " + w[1] + ", " + w[2] + ", " + w[3] + ")", Edges::busy, x -> x.chance(w[0], w[1], w[2], w[3]), NONE);
        }
        due("of an empty house", new AviaryLock().chance(0, 1, 1, 0), NONE);
    }

    private void lies() {
        promise(36, "The i-th number of what lies there;");
        AviaryLock x = Texts.with("lock 1;spring 1 1;party 1 at 0 in;party 1 at 1 in;party 1 at 9 out;");
        x.order(3);
        int[] want = {0, 2, 1};
        for (int i = 0; i < 3; i++) {
            due("lies(" + i + ")", x.lies(i), want[i]);
        }
        x.seconds(3);
        x.week();
        x.undo();
        x.image(0);
        x.back(0);
        x.count(0, 0, 0, 0);
        x.day(0);
        due("it stays behind other calls", x.lies(1), 2);
        promise(36, "NONE if there is none such.");
        for (int i : new int[] {-1, 3, 4, 5, LEAST, MOST}) {
            due("lies(" + i + ") of three", x.lies(i), NONE);
        }
        for (int i = 0; i < 6; i++) {
            due("lies(" + i + ") of none", new AviaryLock().lies(i), NONE);
        }
        leaves("lies(2) of two", Edges::busy, y -> y.lies(2), NONE);
    }
}
