/** Promises 18 to 34 and 36: what a day will be and what is best for it; nothing is done by asking. */
public final class PlanPromisesTest {
    private static final Check CHECK = new Check("PlanPromisesTest");
    private static final String ONE_OUT = "party 1 at 0 out;";
    private static final int[] WRONG = {-1, 99, Integer.MIN_VALUE, Integer.MAX_VALUE};

    private PlanPromisesTest() {
    }

    public static void main(String[] args) {
        day();
        dayGoesOn();
        dayOfStuck();
        quietDay();
        peaks();
        holders();
        crossings();
        polite();
        without();
        gone();
        large();
        springs();
        worth();
        order();
        orderFromNow();
        veils();
        lastWeeks();
        lies();
        chance();
        wrongArguments();
        nothingIsDone();
        CHECK.end();
    }

    private static void days(String name, AviaryLock x, int... want) {
        for (int i = 0; i < want.length; i++) {
            CHECK.due(name + " day " + i, x.day(i), want[i]);
        }
    }

    private static void day() {
        // One enters in second 0; the outer door is shut in second 2, when it passes the inner one.
        days("one in", Texts.with("party 3 at 0 in;"), 3, 0, 0, 0, 0, 3, -1);
        days("nobody", new AviaryLock(), 0, 0, 0, 0, 0, 0, -1);
        // One seat, springs of 1: entered in 0, through in 1; the second enters in 2.
        AviaryLock x = Texts.with("lock 1;spring 1 1;party 1 at 0 in;party 1 at 0 in;party 1 at 5 in;");
        days("three in", x, 7, 2, 2, 0, 0, 3);
        CHECK.due("outer", x.opened(0), 3);
        CHECK.due("inner", x.opened(1), 3);
        // Draws 71 and 98: (100 * 50 + 71) / 100 between, (50 * 50 + 98) / 100 outside.
        AviaryLock y = Texts.with("spring 1 1;sort a birds 100 slips 50;" + ONE_OUT);
        days("one out", y, 2, 0, 0, 0, 25, 1);
        CHECK.due("then within", y.then(0, 0), 50);
        CHECK.due("then between", y.then(0, 1), 25);
        CHECK.due("then outside", y.then(0, 2), 25);
        CHECK.due("then 3", y.then(0, 3), -1);
        CHECK.due("then of none", y.then(1, 0), -1);
        CHECK.due("then of -1", y.then(-1, 0), -1);
    }

    private static void dayGoesOn() {
        AviaryLock x = Texts.with("lock 1;spring 1 1;party 1 at 0 in;party 1 at 0 in;party 1 at 5 in;");
        x.seconds(4);
        days("the rest", x, 3, 2, 2, 0, 0, 3);
        CHECK.due("outer in the rest", x.opened(0), 1);
        x.seconds(3);
        days("no rest", x, 0, 2, 2, 0, 0, 3);
        CHECK.due("no second", x.opened(1), 0);
        x.week();
        days("a new week", x, 7, 2, 2, 0, 0, 3);
        AviaryLock y = Texts.with("manners 100;party 1 at 0 in;party 1 at 20 in;");
        y.seconds(2);
        CHECK.due("a gap already", y.about(11), 1);
        CHECK.due("gaps, all", y.day(3), 2);
        CHECK.due("holds in the day alone", y.holds(), 1);
        CHECK.due("holders in the day alone", y.holders(), 2);
        y.week();
        CHECK.due("both hold in a day", y.holders(), 3);
        y.seconds(300);
        y.seconds(300);
        CHECK.due("a late day", y.day(0), 0);
        CHECK.due("no holders there", y.holders(), 0);
    }

    private static void dayOfStuck() {
        AviaryLock x = Texts.with("party 5 at 3 in;party 1 at 4 in;party 2 at 0 out;");
        // The second party waits behind the first, for which the lock has not the seats.
        days("stuck", x, -1, 0, 0, 0, 0, 2);
        CHECK.due("who is stuck", x.stuck(), 3);
        CHECK.due("the line at its longest", x.peak(0), 2);
        CHECK.due("stuck nowhere", Texts.with(ONE_OUT).stuck(), 0);
        x.seconds(300);
        CHECK.due("still stuck", x.stuck(), 3);
        days("still", x, -1, 0, 0, 0, 0, 2);
        CHECK.due("opened no more", x.opened(0) + x.opened(1), 0);
        CHECK.due("a lock that is enough", x.large(300), 5);
        CHECK.due("too long a wait already", x.large(296), -1);
        // The second enters in second 301 by the open door if there is a sixth seat, else in second 304.
        CHECK.due("just as long", x.large(297), 6);
        CHECK.due("a little longer", x.large(299), 6);
    }

    private static void quietDay() {
        AviaryLock x = Texts.with("party 1 at 299 in;party 1 at 150 out;");
        days("late ones", x, 302, 0, 0, 0, 0, 2);
        CHECK.due("outer", x.opened(0), 2 + 2);
        CHECK.due("inner", x.opened(1), 2 + 1);
        x.seconds(140);
        days("later", x, 162, 0, 0, 0, 0, 2);
        x.seconds(161);
        days("nearly", x, 1, 0, 0, 0, 0, 2);
        // A pram of nine heads never fits into four seats: 900 seconds are not enough, from any second on.
        AviaryLock y = Texts.with("party 9 at 299 in pram;");
        y.seconds(298);
        days("never", y, -1, 0, 0, 0, 0, 0);
        CHECK.due("one waits at last", y.peak(0), 1);
    }

    private static void peaks() {
        AviaryLock x = Texts.with("lock 9;party 4 at 0 in pram;party 3 at 0 out;party 1 at 0 out;party 2 at 0 in;party 1 at 0 in;");
        CHECK.due("outside", x.peak(0), 2);
        CHECK.due("inside", x.peak(1), 2);
        CHECK.due("heads", x.peak(2), 7);
        x.seconds(1);
        CHECK.due("ahead of the day one less", x.line(0), 2);
        x.seconds(300);
        CHECK.due("no second, none outside", x.peak(0), 0);
        CHECK.due("no second, none in the lock", x.peak(2), 0);
    }

    private static void holders() {
        // Draw 71 in second 0, for the one that goes out; it passes the inner door while the outer one is open.
        AviaryLock x = Texts.with("lock 9;manners 72;spring 1 1;party 1 at 0 in;party 1 at 0 out;");
        CHECK.due("holders", x.holders(), 2);
        CHECK.due("holds", x.holds(), 1);
        CHECK.due("gaps", x.day(3), 1);
        AviaryLock y = Texts.with("lock 9;manners 71;spring 1 1;party 1 at 0 in;party 1 at 0 out;");
        CHECK.due("none holds in second 0", y.party(1, 0), 0);
        CHECK.due("holders by less", y.holders(), 0);
        CHECK.due("no holds", y.holds(), 0);
    }

    private static void crossings() {
        AviaryLock x = Texts.with("lock 9;manners 100;party 1 at 0 in;party 1 at 0 out;");
        CHECK.due("both in the lock in second 0", x.crossings(), 1);
        CHECK.due("one way", Texts.with("lock 9;manners 100;party 1 at 0 in;party 1 at 0 in;").crossings(), 0);
        // By a latch one waits for the other: in passes the inner door in second 2, out enters by it then.
        CHECK.due("by a latch", Texts.with("lock 9;latch;party 1 at 0 in;party 1 at 0 out;").crossings(), 0);
        x.seconds(1);
        CHECK.due("not in what is left", x.crossings(), 0);
    }

    private static void polite() {
        // The draws are 71 (the sort), 98 (who would hold), so that 99 and 100 make a gap by which all ten get out.
        AviaryLock x = Texts.with("manners 72;sort s birds 10 slips 100*gap;party 1 at 0 in;");
        CHECK.due("polite 0", x.polite(0), 98);
        CHECK.due("polite 9", x.polite(9), 98);
        CHECK.due("polite 10", x.polite(10), 100);
        CHECK.due("polite most", x.polite(Integer.MAX_VALUE), 100);
        AviaryLock y = Texts.with("spring 1 1;sort s birds 10 slips 100;" + ONE_OUT);
        CHECK.due("by none", y.polite(9), -1);
        CHECK.due("by all", y.polite(10), 100);
        CHECK.due("below 0", y.polite(-1), -1);
        CHECK.due("least", y.polite(Integer.MIN_VALUE), -1);
        AviaryLock z = Texts.with("latch;sort s birds 10 slips 100*gap;party 1 at 0 in;");
        CHECK.due("a latch", z.polite(0), 100);
    }

    private static void without() {
        AviaryLock x = Texts.with("lock 1;spring 1 1;party 1 at 9 in;party 1 at 0 in;party 1 at 0 in;");
        CHECK.due("without the second", x.without(0), 1);
        CHECK.due("the waits then", x.without(1), 0);
        x.seconds(1);
        CHECK.due("one is left to come", x.without(0), 0);
        CHECK.due("the waits of the others", x.without(1), 2);
        x.seconds(9);
        CHECK.due("none is left", x.without(0), -1);
        CHECK.due("none is left, waits", x.without(1), -1);
        AviaryLock y = Texts.with("party 9 at 5 in;party 1 at 5 in;party 1 at 9 in;");
        CHECK.due("of like ones the first", y.without(0), 0);
    }

    private static void gone() {
        CHECK.due("none at first", Texts.with("sort s birds 0 slips 0;").gone(0), 0);
        CHECK.due("in the first week", Texts.with("sort s birds 9 slips 100;" + ONE_OUT).gone(0), 1);
        CHECK.due("in the third", Texts.with("sort s birds 9 slips 100*(week>2);" + ONE_OUT).gone(0), 3);
        CHECK.due("in the twentieth", Texts.with("sort s birds 9 slips 100*(week>19);" + ONE_OUT).gone(0), 20);
        CHECK.due("later than that", Texts.with("sort s birds 9 slips 100*(week>20);" + ONE_OUT).gone(0), -1);
        CHECK.due("nobody comes", Texts.with("sort s birds 9 slips 100;").gone(0), -1);
        CHECK.due("no such sort", Texts.with("sort s birds 0 slips 0;").gone(1), -1);
        AviaryLock x = Texts.with("sort s birds 9 slips 100*(week>2);" + ONE_OUT);
        x.week();
        x.seconds(1);
        CHECK.due("from the first week on", x.gone(0), 2);
    }

    private static void large() {
        // Springs of 2: with two seats the second enters by the open door in second 1, with one in second 4.
        AviaryLock x = Texts.with("party 1 at 0 in;party 1 at 0 in;");
        CHECK.due("wait 0", x.large(0), -1);
        CHECK.due("wait 1", x.large(1), 2);
        CHECK.due("wait 3", x.large(3), 2);
        CHECK.due("wait 4", x.large(4), 1);
        CHECK.due("wait 999", x.large(999), 1);
        CHECK.due("wait 1000", x.large(1000), -1);
        CHECK.due("wait -1", x.large(-1), -1);
        CHECK.due("twenty seats", Texts.with("party 9 at 0 in pram;party 9 at 1 in;").large(0), 20);
        CHECK.due("a pram", Texts.with("lock 1;party 9 at 0 in pram;").large(0), 11);
        CHECK.due("nobody", new AviaryLock().large(0), 1);
    }

    private static void springs() {
        AviaryLock x = Texts.with("party 1 at 0 in;party 1 at 0 in;");
        // By an outer spring of 2 the second waits for one second only.
        CHECK.due("outer", x.springs(0), 2);
        CHECK.due("inner", x.springs(1), 1);
        CHECK.due("outside", x.springs(2), 0);
        AviaryLock y = Texts.with("spring 9 9;sort s birds 100 slips 50;" + ONE_OUT);
        CHECK.due("outer of one", y.springs(0), 1);
        CHECK.due("inner of one", y.springs(1), 1);
        CHECK.due("outside of one", y.springs(2), 25);
        CHECK.due("springs 3", y.springs(3), -1);
        CHECK.due("springs -1", y.springs(-1), -1);
    }

    private static void worth() {
        AviaryLock x = Texts.with("sort s birds 10 slips 100-night*100;spring 1 1;" + ONE_OUT);
        CHECK.due("dark", x.worth(1), 10);
        CHECK.due("dark when it is dark", Texts.with("dark;sort s birds 10 slips 100-night*100;" + ONE_OUT).worth(1), 10);
        CHECK.due("dark that harms", Texts.with("sort s birds 10 slips night*100;" + ONE_OUT).worth(1), -10);
        CHECK.due("a curtain", Texts.with("curtain 5;sort s birds 10 slips 90-veil*10;spring 1 1;" + ONE_OUT).worth(2),
            // Draws 71, 98: (900 + 71) / 100 = 9 between, (810 + 98) / 100 = 9 outside.
            9);
        AviaryLock y = Texts.with("manners 99;sort s birds 10 slips 100*gap;party 1 at 0 in;");
        CHECK.due("a latch", y.worth(0), 10);
        CHECK.due("a latch that is there", Texts.with("latch;manners 99;sort s birds 10 slips 100*gap;party 1 at 0 in;").worth(0), 10);
        for (int wrong : new int[] {-1, 3, Integer.MIN_VALUE, Integer.MAX_VALUE}) {
            CHECK.due("worth " + wrong, y.worth(wrong), -1000000);
        }
    }

    private static void lying(String name, AviaryLock x, int... want) {
        CHECK.due(name + " numbers", x.about(18), want.length);
        for (int i = 0; i < want.length; i++) {
            CHECK.due(name + " lies " + i, x.lies(i), want[i]);
        }
        CHECK.due(name + " lies no more", x.lies(want.length), -1);
        CHECK.due(name + " lies -1", x.lies(-1), -1);
    }

    private static void order() {
        // Out in second 1 can enter by the inner door that the first has just passed; a second in would wait.
        AviaryLock x = Texts.with("lock 1;spring 1 1;party 1 at 0 in;party 1 at 1 in;party 1 at 9 out;");
        CHECK.due("order of two", x.order(2), 1);
        lying("two", x, 0, 1);
        CHECK.due("order of three", x.order(3), 0);
        lying("three", x, 0, 2, 1);
        CHECK.due("order of four", x.order(4), -1);
        lying("four", x);
        CHECK.due("order of one", x.order(1), -1);
        CHECK.due("order of six", x.order(6), -1);
        CHECK.due("told seconds stay", x.party(1, 4), 1);
        AviaryLock y = Texts.with("party 1 at 50 in;party 1 at 40 in;party 1 at 30 in;party 1 at 20 in;party 1 at 10 in;");
        CHECK.due("order of five", y.order(5), 0);
        lying("five", y, 0, 1, 2, 3, 4);
        AviaryLock z = Texts.with("lock 5;spring 3 3;manners 46;party 1 at 20 out;party 3 at 19 out;party 5 at 8 out;party 1 at 16 in;party 4 at 18 in;");
        CHECK.due("waits as told", z.day(2), 4);
        CHECK.due("the last of all orders", z.order(5), 0);
        lying("the last of all orders", z, 4, 3, 2, 1, 0);
    }

    private static void orderFromNow() {
        AviaryLock x = Texts.with("lock 1;spring 1 1;party 1 at 0 in;party 1 at 0 in;party 1 at 11 in;party 1 at 5 in;party 1 at 10 in;party 1 at 30 out;");
        x.seconds(6);
        // Told for 11, 10, 30: two that go in would cost a second; one out at 10 opens the outer door in 11.
        CHECK.due("order of those left", x.order(3), 2);
        lying("left", x, 2, 5, 4);
    }

    private static void veils() {
        AviaryLock x = Texts.with("sort s birds 10 slips 100-100*(veil=week);spring 1 1;" + ONE_OUT);
        CHECK.due("two weeks", x.veils(2), 0);
        lying("two weeks", x, 1, 2);
        CHECK.due("one week", x.veils(1), 0);
        lying("one week", x, 1);
        CHECK.due("three weeks", x.veils(3), 10);
        lying("three weeks", x, 0, 0, 0);
        CHECK.due("no weeks", x.veils(0), -1);
        lying("no weeks", x);
        CHECK.due("five weeks", x.veils(5), -1);
        AviaryLock y = Texts.with("curtain 9;sort s birds 10 slips 100-veil*50;" + ONE_OUT);
        CHECK.due("four weeks", y.veils(4), 0);
        lying("four weeks", y, 2, 2, 2, 2);
        CHECK.due("the curtain stays", y.about(7), 9);
        CHECK.due("the week stays", y.about(3), 0);
        y.week();
        CHECK.due("from a week on", y.veils(1), 0);
    }

    // No run of 512 calls comes to these weeks; the class keeps to their limit all the same.
    private static void lastWeeks() {
        AviaryLock x = Texts.with("sort s birds 10 slips 0;sort t birds 9 slips 100*(week=999);" + ONE_OUT);
        for (int i = 1; i <= 996; i++) {
            x.week();
        }
        CHECK.due("veils past 999", x.veils(4), -1);
        CHECK.due("none lie there", x.about(18), 0);
        CHECK.due("veils to 999", x.veils(3), 9);
        CHECK.due("gone in the last week", x.gone(1), 3);
        CHECK.due("not gone by the last week", x.gone(0), -1);
        CHECK.due("week 997", x.week(), 997);
        CHECK.due("week 998", x.week(), 998);
        CHECK.due("week 999", x.week(), 999);
        CHECK.due("no week 1000", x.week(), -1);
        CHECK.due("nothing done", x.about(3), 999);
        CHECK.due("no veils", x.veils(1), -1);
        CHECK.due("no week to be gone in", x.gone(1), -1);
    }

    private static void lies() {
        AviaryLock x = new AviaryLock();
        lying("nothing", x);
        CHECK.due("veils of nobody", x.veils(4), 0);
        lying("veils of nobody", x, 0, 0, 0, 0);
        CHECK.due("lies far", x.lies(Integer.MAX_VALUE), -1);
        CHECK.due("lies least", x.lies(Integer.MIN_VALUE), -1);
        x.seconds(5);
        x.undo();
        lying("acts leave it", x, 0, 0, 0, 0);
        x.order(2);
        lying("none by order", x);
    }

    private static void chances(String odds, int a, int b, long upper, long lower) {
        AviaryLock x = Texts.with("sort s birds 1 slips " + odds + ";");
        CHECK.due("chance by " + odds + " " + a + " " + b, x.chance(0, a, b, 0), upper);
        CHECK.due("chance by " + odds + " " + a + " " + b + " of", x.chance(0, a, b, 1), lower);
    }

    private static void chance() {
        chances("50", 1, 1, 1, 4);
        chances("50", 2, 1, 3, 8);
        chances("10", 1, 1, 1, 100);
        chances("20", 2, 1, 9, 125);
        chances("100", 1, 1, 1, 1);
        chances("100", 4, 4, 1, 1);
        chances("0", 4, 4, 0, 1);
        chances("100", 0, 4, 0, 1);
        chances("100", 4, 0, 0, 1);
        // 100 ^ 4 - 99 ^ 4 is 3940399, which 2 and 5 do not divide.
        chances("1", 4, 4, 3940399L * 3940399L, 10000000000000000L);
        AviaryLock x = Texts.with("sort s birds 1 slips 50*night;");
        x.dusk();
        CHECK.due("by odds now", x.chance(0, 1, 1, 1), 4);
        int[][] wrong = {{1, 1, 1, 0}, {-1, 1, 1, 0}, {0, 5, 1, 0}, {0, -1, 1, 0}, {0, 1, 5, 0}, {0, 1, -1, 1}, {0, 1, 1, 2}, {0, 1, 1, -1}};
        for (int[] w : wrong) {
            CHECK.due("no chance", x.chance(w[0], w[1], w[2], w[3]), -1);
        }
    }

    private static void wrongArguments() {
        AviaryLock x = Texts.with("sort s birds 10 slips 50;" + ONE_OUT);
        for (int w : WRONG) {
            CHECK.due("day " + w, x.day(w), -1);
            CHECK.due("then " + w, x.then(w, 0), -1);
            CHECK.due("then what " + w, x.then(0, w), -1);
            CHECK.due("peak " + w, x.peak(w), -1);
            CHECK.due("opened " + w, x.opened(w), -1);
            CHECK.due("without " + w, x.without(w), -1);
            CHECK.due("gone " + w, x.gone(w), -1);
            CHECK.due("springs " + w, x.springs(w), -1);
            CHECK.due("order " + w, x.order(w), -1);
            CHECK.due("veils " + w, x.veils(w), -1);
        }
        CHECK.due("day 6", x.day(6), -1);
        CHECK.due("peak 3", x.peak(3), -1);
        CHECK.due("opened 2", x.opened(2), -1);
        CHECK.due("without 2", x.without(2), -1);
    }

    private static void nothingIsDone() {
        AviaryLock x = Texts.with("manners 60;sort s birds 90 slips 20;party 1 at 0 in;party 2 at 0 out;party 1 at 3 in;party 1 at 4 out;");
        x.seconds(2);
        int[] before = new int[18];
        for (int i = 0; i < before.length; i++) {
            before[i] = x.about(i);
        }
        int within = x.sort(0, 0);
        x.day(0);
        x.polite(3);
        x.without(0);
        x.gone(0);
        x.large(3);
        x.springs(0);
        x.worth(0);
        x.worth(1);
        x.worth(2);
        x.order(2);
        x.veils(4);
        for (int i = 0; i < before.length; i++) {
            CHECK.due("asking leaves about " + i, x.about(i), before[i]);
        }
        CHECK.due("asking leaves within", x.sort(0, 0), within);
        CHECK.due("asking leaves who comes", x.party(2, 0), 0);
        CHECK.due("asking leaves when", x.party(2, 4), 3);
    }
}
