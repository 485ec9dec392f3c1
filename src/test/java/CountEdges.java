/** The edges of counts: promises 37 to 42. */
final class CountEdges extends Edges {
    private static final int[] NO_SORT = {-1, 2, 4, LEAST, MOST};
    private static final String TWO = "sort a birds 100 slips 1;sort b birds 20 slips 1;";

    CountEdges(Check check, Doc doc) {
        super(check, doc);
    }

    @Override
    void run() {
        tellingAtTimes();
        whatIsTold();
        knownAt();
        spanOfAll();
        lostOfTold();
        count();
        countRefused();
        untell();
        later();
        laterRefused();
        span();
        strangers();
        lost();
    }

    private void tellingAtTimes() {
        terms("COUNTS, 30 at most, are TOLD at a TIME (0 at first, goes on), UNTOLD at a later one or the same:");
        AviaryLock x = Texts.with(TWO);
        due("the time at first", x.about(15), 0);
        for (int i = 0; i < 30; i++) {
            due("count " + i, x.count(0, 0, 9, 0), i);
        }
        due("a 31st", x.count(0, 0, 9, 0), NONE);
        due("counts", x.about(14), 30);
        due("untold at the same time", x.untell(0), true);
        x.later(5);
        due("untold at a later one", x.untell(1), true);
        due("untold ones are counts", x.about(14), 30);
        due("a 31st still", x.count(0, 0, 9, 0), NONE);
    }

    private void whatIsTold() {
        terms("of a SORT there were so many at least, so many at most WITHIN, and how many of these were STRANGERS (never told in the text).");
        AviaryLock x = Texts.with(TWO);
        x.count(1, 7, 300, 290);
        due("the least", x.span(1, 0, 0), 7);
        due("the most, more than were told", x.span(1, 1, 0), 300);
        due("strangers", x.strangers(1, 0), 290);
        due("the other sort's least", x.span(0, 0, 0), 0);
        due("the other sort's most", x.span(0, 1, 0), 480);
        due("the other sort's strangers", x.strangers(0, 0), NONE);
        due("birds are as they were", x.sort(1, 0), 20);
    }

    private void dueSpan(String name, AviaryLock x, int k, int least, int most) {
        due(name + ", least at " + k, x.span(0, 0, k), least);
        due(name + ", most at " + k, x.span(0, 1, k), most);
        due(name + ", numbers at " + k, x.span(0, 2, k), least == NONE ? 0 : most - least + 1);
    }

    private void knownAt() {
        terms("As known at k those count that were TOLD at k or before, not UNTOLD at k or before.");
        AviaryLock x = Texts.with(TWO);
        x.later(10);
        x.count(0, 20, 80, 4);
        x.later(10);
        x.count(0, 30, 90, 7);
        x.later(10);
        x.untell(0);
        dueSpan("none yet", x, 9, 0, 480);
        dueSpan("none ever", x, LEAST, 0, 480);
        dueSpan("none", x, -1, 0, 480);
        dueSpan("the first, when it was told", x, 10, 20, 80);
        dueSpan("the first alone", x, 19, 20, 80);
        dueSpan("both, when the second was told", x, 20, 30, 80);
        dueSpan("both, the last time", x, 29, 30, 80);
        dueSpan("the second, when the first was untold", x, 30, 30, 90);
        dueSpan("the second from then on", x, 31, 30, 90);
        dueSpan("the second ever after", x, MOST, 30, 90);
        AviaryLock y = Texts.with(TWO);
        y.count(0, 5, 6, 1);
        y.untell(0);
        dueSpan("told and untold at the same time", y, 0, 0, 480);
        y.count(0, 5, 6, 1);
        y.later(1);
        y.untell(1);
        dueSpan("as known before it was untold", y, 0, 5, 6);
        dueSpan("as known when it was untold", y, 1, 0, 480);
    }

    private void spanOfAll() {
        terms("SPAN of a SORT: numbers (0 .. 480) that are in all of these;");
        AviaryLock x = Texts.with(TWO);
        dueSpan("no counts", x, 0, 0, 480);
        x.count(0, 0, 480, 0);
        dueSpan("all numbers", x, 0, 0, 480);
        x.count(0, 10, 470, 0);
        dueSpan("fewer", x, 0, 10, 470);
        x.count(0, 5, 50, 0);
        dueSpan("the least of one, the most of another", x, 0, 10, 50);
        x.count(0, 50, 60, 0);
        dueSpan("one number", x, 0, 50, 50);
        x.count(0, 51, 51, 0);
        dueSpan("none", x, 0, NONE, NONE);
        x.untell(4);
        dueSpan("one number again", x, 0, 50, 50);
        x.count(0, 400, 480, 0);
        dueSpan("none by far", x, 0, NONE, NONE);
    }

    private void lostOfTold() {
        terms("LOST: birds told less those that can be in there at the most (the SPAN's most less the most STRANGERS told, 0 at least), 0 at least.");
        AviaryLock x = Texts.with(TWO);
        x.count(0, 0, 100, 0);
        due("100 at the most of 100", x.lost(0, 0), 0);
        x.count(0, 0, 99, 0);
        due("99 at the most of 100", x.lost(0, 0), 1);
        x.count(0, 0, 200, 30);
        due("99 less 30 strangers", x.lost(0, 0), 31);
        x.count(0, 0, 200, 99);
        due("as many strangers as can be in there", x.lost(0, 0), 100);
        x.count(0, 0, 200, 200);
        due("more strangers than that", x.lost(0, 0), 100);
        AviaryLock y = Texts.with(TWO + "party 1 at 0 out;sort c birds 240 slips 100;");
        due("no counts", y.lost(2, 0), 0);
        y.seconds(20);
        due("birds outside are no matter", y.lost(2, 0), 0);
        y.count(2, 0, 0, 0);
        due("none in there", y.lost(2, 0), 240);
        y.count(1, 0, 480, 460);
        due("20 at the most of 20", y.lost(1, 0), 0);
        y.count(1, 0, 480, 461);
        due("19 at the most of 20", y.lost(1, 0), 1);
    }

    private void count() {
        promise(37, "A COUNT (0 .. 480 at least, not less at most, strangers 0 .. at most): its number;");
        AviaryLock x = Texts.with(TWO);
        due("none at least, none at most", x.count(0, 0, 0, 0), 0);
        due("480 at least, 480 at most, all strangers", x.count(0, 480, 480, 480), 1);
        due("0 to 480, no strangers", x.count(1, 0, 480, 0), 2);
        due("0 to 480, all strangers", x.count(1, 0, 480, 480), 3);
        due("as many at most as at least", x.count(0, 7, 7, 7), 4);
        due("counts", x.about(14), 5);
        isNoAct("count()", Edges::busy, y -> y.count(0, 1, 2, 1));
    }

    private void countRefused() {
        promise(37, "NONE, doing nothing, if one can't be, or there are 30.");
        int[][] wrong = {{0, -1, 5, 0}, {0, LEAST, 5, 0}, {0, 481, 481, 0}, {0, 481, 480, 0}, {0, 0, 481, 0}, {0, 0, MOST, 0}, {0, 5, 4, 0}, {0, 5, LEAST, 0},
            {0, 0, -1, 0}, {0, MOST, MOST, 0}, {0, 0, 5, 6}, {0, 0, 5, -1}, {0, 0, 5, LEAST}, {0, 0, 5, MOST}, {0, 0, 0, 1}, {0, 480, 480, 481}};
        for (int[] w : wrong) {
            leaves("count(" + w[0] + ", " + w[1] + ", " + w[2] + ", " + w[3] + ")", Edges::busy, x -> x.count(w[0], w[1], w[2], w[3]), NONE);
        }
        for (int sort : NO_SORT) {
            leaves("count(" + sort + ", 0, 0, 0)", Edges::busy, x -> x.count(sort, 0, 0, 0), NONE);
        }
        leaves("count(0, 0, 0, 0) of an empty house", x -> { }, x -> x.count(0, 0, 0, 0), NONE);
        Scene full = x -> {
            busy(x);
            for (int i = x.about(14); i < 30; i++) {
                x.count(0, 0, 100, 3);
            }
        };
        due("counts", after(full).about(14), 30);
        leaves("count(0, 1, 1, 1), the 31st", full, x -> x.count(0, 1, 1, 1), NONE);
        leaves("count(0, 1, 1, 1), the 31st with one untold", x -> {
            full.play(x);
            x.untell(5);
        }, x -> x.count(0, 1, 1, 1), NONE);
    }

    private void untell() {
        promise(38, "It is UNTOLD: true; false if it is so already, or there is none such.");
        AviaryLock x = Texts.with(TWO);
        x.count(0, 5, 6, 1);
        x.count(0, 7, 8, 1);
        due("untell(1)", x.untell(1), true);
        dueSpan("the first alone counts", x, 0, 5, 6);
        due("untell(1) once more", x.untell(1), false);
        due("untell(2)", x.untell(2), false);
        due("untell(0)", x.untell(0), true);
        due("untell(0) once more", x.untell(0), false);
        // The busy scene has two counts, the first one untold at time 4; a second untelling would come later.
        for (int count : new int[] {0, 2, 29, 30, -1, LEAST, MOST}) {
            leaves("untell(" + count + ")", y -> {
                busy(y);
                y.later(1);
            }, y -> y.untell(count) ? 1 : 0, 0);
        }
        AviaryLock full = Texts.with(TWO);
        for (int i = 0; i < 30; i++) {
            full.count(0, 0, 9, 0);
        }
        due("the last of 30", full.untell(29), true);
        due("a 31st", full.untell(30), false);
        leaves("untell(0) of an empty house", y -> { }, y -> y.untell(0) ? 1 : 0, 0);
        AviaryLock anew = after(Edges::busy);
        anew.end(0);
        anew.house();
        due("untell(1) behind another house()", anew.untell(1), false);
        isNoAct("untell(1)", Edges::busy, y -> y.untell(1) ? 1 : 0);
    }

    private void later() {
        promise(39, "So much later (0 .. 1000): the TIME;");
        AviaryLock x = new AviaryLock();
        due("later(0)", x.later(0), 0);
        due("later(1)", x.later(1), 1);
        due("later(1000)", x.later(1000), 1001);
        due("later(999)", x.later(999), 2000);
        due("the time", x.about(15), 2000);
        isNoAct("later(1)", Edges::busy, y -> y.later(1));
    }

    private void laterRefused() {
        promise(39, "NONE, doing nothing, for another number, or if it would be above 100,000.");
        for (int by : new int[] {-1, 1001, LEAST, MOST}) {
            leaves("later(" + by + ")", Edges::busy, x -> x.later(by), NONE);
        }
        Scene late = x -> {
            busy(x);
            for (int i = 0; i < 99; i++) {
                x.later(1000);
            }
            x.later(995);
        };
        due("the time", after(late).about(15), 99999);
        due("later(1) to 100,000", after(late).later(1), 100000);
        leaves("later(2) past 100,000", late, x -> x.later(2), NONE);
        leaves("later(1000) past 100,000", late, x -> x.later(1000), NONE);
        Scene last = x -> {
            late.play(x);
            x.later(1);
        };
        due("later(0) at 100,000", after(last).later(0), 100000);
        leaves("later(1) at 100,000", last, x -> x.later(1), NONE);
        AviaryLock y = after(last);
        y.count(0, 3, 4, 0);
        due("a count at 100,000, as known then", y.span(0, 0, 100000), 3);
        due("as known a little before", y.span(0, 0, 99999), 0);
    }

    private void span() {
        promise(40, "SPAN what 0: the least, 1: the most, 2: how many numbers;");
        AviaryLock x = Texts.with(TWO);
        x.count(0, 3, 480, 0);
        int[] want = {3, 480, 478};
        for (int what = 0; what < 3; what++) {
            due("span(0, " + what + ", 0)", x.span(0, what, 0), want[what]);
        }
        promise(40, "NONE for what 0, 1 if there are none, or if one can't be.");
        x.count(0, 0, 2, 0);
        int[] none = {NONE, NONE, 0};
        for (int what = 0; what < 3; what++) {
            due("span(0, " + what + ", 0) of none", x.span(0, what, 0), none[what]);
        }
        for (int what : new int[] {-1, 3, LEAST, MOST}) {
            leaves("span(0, " + what + ", 4)", Edges::busy, y -> y.span(0, what, 4), NONE);
        }
        for (int sort : NO_SORT) {
            for (int what = 0; what < 3; what++) {
                due("span(" + sort + ", " + what + ", 4)", after(Edges::busy).span(sort, what, 4), NONE);
            }
        }
        due("span(0, 2, 0) of an empty house", new AviaryLock().span(0, 2, 0), NONE);
    }

    private void strangers() {
        promise(41, "The most STRANGERS that a COUNT that counts tells;");
        AviaryLock x = Texts.with(TWO);
        x.count(0, 0, 9, 0);
        due("none", x.strangers(0, 0), 0);
        x.count(0, 0, 480, 480);
        due("the most", x.strangers(0, 0), 480);
        x.count(0, 0, 9, 5);
        due("the most still", x.strangers(0, 0), 480);
        x.later(1);
        x.untell(1);
        due("as known now", x.strangers(0, 1), 5);
        due("as known then", x.strangers(0, 0), 480);
        x.count(0, 480, 480, 7);
        due("though no number is in all", x.strangers(0, 1), 7);
        promise(41, "NONE if none counts, or there is no such SORT.");
        due("as known before", x.strangers(0, -1), NONE);
        due("as known long before", x.strangers(0, LEAST), NONE);
        due("none of the other sort", x.strangers(1, 0), NONE);
        x.count(1, 0, 1, 1);
        due("the other sort, not yet", x.strangers(1, 0), NONE);
        due("the other sort now", x.strangers(1, 1), 1);
        x.untell(4);
        due("untold at the same time", x.strangers(1, 1), NONE);
        for (int sort : NO_SORT) {
            leaves("strangers(" + sort + ", 4)", Edges::busy, y -> y.strangers(sort, 4), NONE);
        }
        due("of an empty house", new AviaryLock().strangers(0, 0), NONE);
    }

    private void lost() {
        promise(42, "LOST;");
        AviaryLock x = Texts.with(TWO);
        due("no counts", x.lost(0, 0), 0);
        x.later(3);
        x.count(0, 0, 60, 10);
        due("as known now", x.lost(0, 3), 50);
        due("as known before", x.lost(0, 2), 0);
        due("as known by and by", x.lost(0, MOST), 50);
        due("as known long before", x.lost(0, LEAST), 0);
        x.count(0, 60, 70, 0);
        due("a span of one number", x.lost(0, 3), 50);
        promise(42, "NONE if the SPAN is empty, or there is no such SORT.");
        x.count(0, 61, 70, 0);
        due("an empty span", x.lost(0, 3), NONE);
        due("not before", x.lost(0, 2), 0);
        due("the other sort", x.lost(1, 3), 0);
        for (int sort : NO_SORT) {
            leaves("lost(" + sort + ", 4)", Edges::busy, y -> y.lost(sort, 4), NONE);
        }
        due("of an empty house", new AviaryLock().lost(0, 0), NONE);
    }
}
