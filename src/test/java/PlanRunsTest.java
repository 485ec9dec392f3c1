import java.util.Random;

/** Plans in many busy houses by told seeds, asked of the class and of the plain model: both answer alike. */
public final class PlanRunsTest {
    private static final int HOUSES = 150;

    private final Check check = new Check("PlanRunsTest");
    private AviaryLock x;
    private Model model;
    private String where;

    private PlanRunsTest() {
    }

    public static void main(String[] args) {
        int houses = args.length > 0 ? Integer.parseInt(args[0]) : HOUSES;
        Random random = new Random(args.length > 1 ? Integer.parseInt(args[1]) : 7);
        PlanRunsTest test = new PlanRunsTest();
        for (int i = 0; i < houses; i++) {
            test.ask(Houses.busy(random), random);
        }
        test.check.end();
    }

    private void ask(String text, Random random) {
        where = text;
        x = Texts.with(text);
        model = new Model();
        for (int i = 0; i < text.length(); i += 20) {
            model.call("feed", Texts.five(text, i));
        }
        model.call("end", new int[] {text.length()});
        due("parties", x.about(0), "house");
        int ahead = random.nextInt(3) == 0 ? random.nextInt(12) : 0;
        due("seconds", x.seconds(ahead), "seconds", ahead);
        for (int n = 2; n <= 5; n++) {
            due("order", x.order(n), "order", n);
            dueLying();
        }
        for (int n = 1; n <= 4; n++) {
            due("veils", x.veils(n), "veils", n);
            dueLying();
        }
        for (int i = 0; i < 3; i++) {
            due("springs " + i, x.springs(i), "springs", i);
            due("worth " + i, x.worth(i), "worth", i);
            due("without " + i, x.without(i), "without", i);
            due("gone " + i, x.gone(i), "gone", i);
            due("peak " + i, x.peak(i), "peak", i);
        }
        int outside = x.day(4);
        for (int n = Math.max(0, outside - 12); n < outside + 12; n += 2) {
            due("polite " + n, x.polite(n), "polite", n);
        }
        int longest = x.day(1);
        for (int wait = Math.max(0, longest - 6); wait < longest + 6; wait++) {
            due("large " + wait, x.large(wait), "large", wait);
        }
        dueDay();
    }

    private void dueDay() {
        for (int i = 0; i < 6; i++) {
            due("day " + i, x.day(i), "day", i);
        }
        due("holds", x.holds(), "holds");
        due("holders", x.holders(), "holders");
        due("opened 0", x.opened(0), "opened", 0);
        due("opened 1", x.opened(1), "opened", 1);
        due("crossings", x.crossings(), "crossings");
        due("stuck", x.stuck(), "stuck");
    }

    private void dueLying() {
        for (int i = 0; i < 6; i++) {
            due("lies " + i, x.lies(i), "lies", i);
        }
    }

    private void due(String what, long got, String name, int... a) {
        check.due(what + " in " + where, got, model.call(name, a));
    }
}
