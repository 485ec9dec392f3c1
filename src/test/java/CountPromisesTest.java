/** Promises 37 to 42: counts, told and untold at times, and what is known by them. */
public final class CountPromisesTest {
    private static final Check CHECK = new Check("CountPromisesTest");

    private CountPromisesTest() {
    }

    public static void main(String[] args) {
        counts();
        untelling();
        later();
        spans();
        twoTimes();
        strangersAndLost();
        CHECK.end();
    }

    private static AviaryLock twoSorts() {
        return Texts.with("sort a birds 100 slips 1;sort b birds 20 slips 1;");
    }

    private static void counts() {
        AviaryLock x = twoSorts();
        int[][] wrong = {{2, 0, 0, 0}, {-1, 0, 0, 0}, {0, -1, 5, 0}, {0, 5, 4, 0}, {0, 0, 481, 0}, {0, 481, 481, 0}, {0, 0, 5, 6},
            {0, 0, 5, -1}, {0, Integer.MIN_VALUE, 5, 0}, {0, 0, Integer.MAX_VALUE, 0}, {0, 3, 5, Integer.MIN_VALUE}};
        for (int[] w : wrong) {
            CHECK.due("no count", x.count(w[0], w[1], w[2], w[3]), -1);
        }
        CHECK.due("none so far", x.about(14), 0);
        CHECK.due("all at once", x.count(0, 480, 480, 480), 0);
        CHECK.due("none", x.count(1, 0, 0, 0), 1);
        for (int i = 2; i < 30; i++) {
            CHECK.due("count " + i, x.count(i % 2, 0, 480, 5), i);
        }
        CHECK.due("no more than 30", x.count(0, 0, 5, 0), -1);
        CHECK.due("an untold one is a count still", x.untell(3), true);
        CHECK.due("no more than 30, untold or not", x.count(0, 0, 5, 0), -1);
        CHECK.due("counts", x.about(14), 30);
        CHECK.due("no act", x.about(12), 0);
        CHECK.due("no count without a sort", new AviaryLock().count(0, 0, 0, 0), -1);
    }

    private static void untelling() {
        AviaryLock x = twoSorts();
        for (int wrong : new int[] {0, -1, 30, Integer.MIN_VALUE, Integer.MAX_VALUE}) {
            CHECK.due("none such " + wrong, x.untell(wrong), false);
        }
        x.count(0, 3, 9, 0);
        CHECK.due("the next is none", x.untell(1), false);
        CHECK.due("untold", x.untell(0), true);
        CHECK.due("already so", x.untell(0), false);
        CHECK.due("at the same time it never counts", x.span(0, 2, 0), 481);
    }

    private static void later() {
        AviaryLock x = new AviaryLock();
        CHECK.due("by 0", x.later(0), 0);
        for (int wrong : new int[] {-1, 1001, Integer.MIN_VALUE, Integer.MAX_VALUE}) {
            CHECK.due("by " + wrong, x.later(wrong), -1);
        }
        CHECK.due("nothing done", x.about(15), 0);
        CHECK.due("by 1", x.later(1), 1);
        for (int i = 1; i < 100; i++) {
            CHECK.due("by 1000", x.later(1000), 1 + 1000 * i);
        }
        CHECK.due("past 100000", x.later(1000), -1);
        CHECK.due("to 100000", x.later(999), 100000);
        CHECK.due("past it by 1", x.later(1), -1);
        CHECK.due("by 0 there", x.later(0), 100000);
        x.house();
        CHECK.due("the time stays", x.about(15), 100000);
    }

    private static void span(String name, AviaryLock x, int k, int least, int most, int many) {
        CHECK.due(name + " least", x.span(0, 0, k), least);
        CHECK.due(name + " most", x.span(0, 1, k), most);
        CHECK.due(name + " many", x.span(0, 2, k), many);
    }

    private static void spans() {
        AviaryLock x = twoSorts();
        span("no counts", x, 0, 0, 480, 481);
        x.count(0, 10, 50, 0);
        x.count(1, 1, 2, 2);
        span("one count", x, 0, 10, 50, 41);
        x.count(0, 50, 90, 0);
        span("one number", x, 0, 50, 50, 1);
        x.count(0, 51, 60, 0);
        span("none", x, 0, -1, -1, 0);
        CHECK.due("the other sort", x.span(1, 2, 0), 2);
        CHECK.due("no such sort", x.span(2, 2, 0), -1);
        CHECK.due("no sort -1", x.span(-1, 2, 0), -1);
        CHECK.due("no such what", x.span(0, 3, 0), -1);
        CHECK.due("no what -1", x.span(0, -1, 0), -1);
    }

    private static void twoTimes() {
        AviaryLock x = twoSorts();
        x.later(10);
        x.count(0, 20, 80, 4);
        x.later(10);
        x.count(0, 30, 90, 7);
        x.later(10);
        x.untell(0);
        span("ahead of all", x, 9, 0, 480, 481);
        span("far ahead", x, Integer.MIN_VALUE, 0, 480, 481);
        span("the first", x, 10, 20, 80, 61);
        span("the first still", x, 19, 20, 80, 61);
        span("both", x, 20, 30, 80, 51);
        span("both still", x, 29, 30, 80, 51);
        span("the second", x, 30, 30, 90, 61);
        span("from then on", x, Integer.MAX_VALUE, 30, 90, 61);
        CHECK.due("strangers at 9", x.strangers(0, 9), -1);
        CHECK.due("strangers at 10", x.strangers(0, 10), 4);
        CHECK.due("strangers at 20", x.strangers(0, 20), 7);
    }

    private static void strangersAndLost() {
        AviaryLock x = twoSorts();
        CHECK.due("no count, no strangers", x.strangers(0, 0), -1);
        CHECK.due("no count, none lost", x.lost(0, 0), 0);
        x.count(0, 5, 70, 10);
        CHECK.due("strangers", x.strangers(0, 0), 10);
        CHECK.due("lost", x.lost(0, 0), 40);
        x.count(0, 0, 120, 30);
        CHECK.due("the most strangers", x.strangers(0, 0), 30);
        CHECK.due("lost by both", x.lost(0, 0), 60);
        x.count(0, 0, 100, 90);
        CHECK.due("all lost at most", x.lost(0, 0), 100);
        x.untell(2);
        x.count(0, 90, 100, 0);
        CHECK.due("an empty span", x.lost(0, 0), -1);
        CHECK.due("strangers all the same", x.strangers(0, 0), 30);
        CHECK.due("the other sort", x.lost(1, 0), 0);
        x.count(1, 0, 15, 0);
        CHECK.due("no strangers are 0", x.strangers(1, 0), 0);
        CHECK.due("five of the other", x.lost(1, 0), 5);
        x.count(1, 0, 40, 3);
        CHECK.due("eight of the other", x.lost(1, 0), 8);
        x.count(1, 15, 15, 0);
        CHECK.due("a span of one number", x.lost(1, 0), 8);
        CHECK.due("no such sort", x.lost(2, 0), -1);
        CHECK.due("no sort -1", x.lost(-1, 0), -1);
        CHECK.due("no strangers of none", x.strangers(2, 0), -1);
    }
}
