import java.lang.management.ManagementFactory;

/** All calls of a run live in one room: the rows are made with the object, and calls make none. */
public final class RoomTest {
    private static final int NEW_MOST = 80_000;
    private static final int CALL_MOST = 4;
    private static final Check CHECK = new Check("RoomTest");
    private static final int[][] TEXT = text();

    private RoomTest() {
    }

    public static void main(String[] args) {
        com.sun.management.ThreadMXBean threads = (com.sun.management.ThreadMXBean) ManagementFactory.getThreadMXBean();
        allCalls(new AviaryLock());
        long start = threads.getCurrentThreadAllocatedBytes();
        AviaryLock x = new AviaryLock();
        long made = threads.getCurrentThreadAllocatedBytes();
        CHECK.due("bytes of a new object are few: " + (made - start), made - start < NEW_MOST, true);
        made = threads.getCurrentThreadAllocatedBytes();
        int calls = allCalls(x);
        long after = threads.getCurrentThreadAllocatedBytes();
        CHECK.due("bytes of " + calls + " calls are few: " + (after - made), after - made < (long) calls * CALL_MOST, true);
        CHECK.end();
    }

    /** A text in which all plans have much to try, as feed takes it. */
    private static int[][] text() {
        StringBuilder text = new StringBuilder("lock 6;manners 50;sort a birds 240 slips 3+people*(veil+1);sort b birds 90 slips gap*50+1;");
        for (int i = 0; i < 12; i++) {
            text.append("party ").append(1 + i % 4).append(" at ").append(9 + 3 * i).append(i % 3 == 0 ? " in pram;" : " out;");
        }
        int[][] rows = new int[(text.length() + 19) / 20][];
        for (int i = 0; i < rows.length; i++) {
            rows[i] = Texts.five(text.toString(), 20 * i);
        }
        return rows;
    }

    private static int allCalls(AviaryLock x) {
        int made = 0;
        for (int i = 0; i < 8; i++) {
            for (int[] n : TEXT) {
                x.feed(n[0], n[1], n[2], n[3], n[4]);
                made++;
            }
            CHECK.due("the house stands", x.house(), 12);
            made += 1 + callsOf(x, i);
        }
        return made;
    }

    private static int callsOf(AviaryLock x, int i) {
        int sum = x.seconds(i);
        sum += x.feed(i, i, i, i, i) + x.end(i + 1) + x.house() + x.fault(0) + x.end(0) + x.sort(0, 4) + x.party(i, 1) + x.door(0) + x.line(1);
        sum += x.net(0) + x.food(0, 3) + x.curtain(i) + (x.dusk() ? 1 : 0) + x.week() + (x.undo() ? 1 : 0) + (x.redo() ? 1 : 0);
        sum += x.day(i) + x.then(0, 0) + x.peak(1) + x.stuck() + x.holds() + x.holders() + x.opened(0) + x.crossings();
        sum += x.polite(i) + x.without(1) + x.gone(0) + x.large(9) + x.springs(0) + x.worth(0) + x.order(5) + x.veils(4);
        sum += (int) x.chance(0, 2, 2, 0) + x.board(0) + x.lies(0) + x.count(0, 1, 9, 1) + (x.untell(i) ? 1 : 0) + x.later(1);
        sum += x.span(0, 0, i) + x.strangers(0, i) + x.lost(0, i) + x.image(1) + x.back(1) + x.about(i);
        // The sum keeps the calls from being left out.
        return sum == Integer.MIN_VALUE ? 0 : 46;
    }
}
