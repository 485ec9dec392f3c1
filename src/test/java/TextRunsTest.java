import java.util.Random;

/** Many texts by told seeds, sound ones, deep ones and heaps of tokens, read by the class and by the plain model: both answer alike. */
public final class TextRunsTest {
    private static final int TEXTS = 40000;
    private static final String[] HEAP = {"lock ", "spring ", "latch", "manners ", "dark", "curtain ", "draw ", "sort ", "party ", " birds ",
        " slips ", " at ", " in", " out", " pram", " or ", " and ", " not ", "gap", "people", "night", "veil", "week", "slipped", ";", ";", ";",
        "(", ")", "(", ")", "<", ">", "=", "+", "-", "*", "/", "%", "0", "1", "2", "7", "21", "240", "9999", "12345", "7a", "abcdefgh",
        "abcdefghi", "x", "y", " ", "\n", "\t", "A", "\u00e9", "0000", "00001"};
    private static final String[] JOINTS = {" or ", " and ", "<", ">", "=", "+", "-", "*", "/", "%"};

    private final Check check = new Check("TextRunsTest");
    private final AviaryLock x = new AviaryLock();
    private final Random random;

    private TextRunsTest(int seed) {
        random = new Random(seed);
    }

    public static void main(String[] args) {
        int texts = args.length > 0 ? Integer.parseInt(args[0]) : TEXTS;
        TextRunsTest test = new TextRunsTest(args.length > 1 ? Integer.parseInt(args[1]) : 1);
        for (int i = 0; i < texts; i++) {
            test.read(test.text());
        }
        test.check.end();
    }

    private String text() {
        StringBuilder text = new StringBuilder();
        int kind = random.nextInt(3);
        if (kind == 0) {
            int tokens = random.nextInt(30);
            for (int i = 0; i < tokens; i++) {
                text.append(HEAP[random.nextInt(HEAP.length)]);
            }
        } else {
            int sorts = 1 + random.nextInt(5);
            for (int i = 0; i < sorts; i++) {
                text.append("sort ").append((char) ('a' + random.nextInt(26))).append(" birds 5 slips ");
                addFormula(text, 2 + random.nextInt(8));
                text.append(';');
            }
            if (kind == 2) {
                text.insert(random.nextInt(text.length()), HEAP[random.nextInt(HEAP.length)]);
            }
        }
        return text.length() > 1600 ? text.substring(0, 1600) : text.toString();
    }

    private void addFormula(StringBuilder text, int deep) {
        int units = 1 + random.nextInt(deep > 0 ? 3 : 2);
        for (int i = 0; i < units; i++) {
            text.append(i > 0 ? JOINTS[random.nextInt(JOINTS.length)] : "");
            text.append(" not ".repeat(random.nextInt(6) == 0 ? random.nextInt(5) : 0));
            if (random.nextInt(3) == 0 && deep > 0) {
                text.append('(');
                addFormula(text, deep - 1);
                text.append(')');
            } else {
                text.append(random.nextBoolean() ? "gap" : Integer.toString(random.nextInt(300)));
            }
        }
    }

    private void read(String text) {
        x.end(0);
        Texts.put(x, text);
        int parties = AviaryLock.NONE;
        int fault = 0;
        int place = AviaryLock.NONE;
        int left = 0;
        int units = x.about(17);
        try {
            Model.Told told = new Model.Parser(text).parse();
            parties = told.parties.size();
            units = told.units;
        } catch (Model.Fault f) {
            fault = f.kind;
            place = f.place;
            left = text.length();
        }
        check.due("house() of " + text, x.house(), parties);
        check.due("the fault of " + text, x.fault(0), fault);
        check.due("the fault's place in " + text, x.fault(1), place);
        check.due("bytes on the tape behind " + text, x.about(16), left);
        check.due("units of " + text, x.about(17), units);
    }
}
