import java.util.ArrayList;
import java.util.Collections;
import java.util.List;
import java.util.Random;

/** Texts of houses by a told source of numbers, most of them sound, some with a sign or a word gone wrong. */
final class Houses {
    private static final String[] FACTS = {"gap", "people", "night", "veil", "week", "slipped"};
    private static final String[] WORDS = {"lock", "latch", "not", "and", "or", "(", ")", ";", "5", "12345", "7a", "abcdefghi",
        "sort", "party", "in", "pram", "<", "=", "gap", "A", "birds", "300", "0", "\t", "\n", "draw", "at", "%", "\u00e9"};

    private Houses() {
    }

    static String any(Random r) {
        String text = sound(r);
        int faults = r.nextInt(4) == 0 ? 1 + r.nextInt(2) : 0;
        for (int i = 0; i < faults; i++) {
            text = spoiled(r, text);
        }
        return text.length() > 1600 ? text.substring(0, 1600) : text;
    }

    private static String spoiled(Random r, String text) {
        int at = r.nextInt(text.length() + 1);
        int to = Math.min(text.length(), at + r.nextInt(4));
        switch (r.nextInt(4)) {
            case 0: return text.substring(0, at);
            case 1: return text.substring(0, at) + text.substring(to);
            case 2: return text.substring(0, at) + WORDS[r.nextInt(WORDS.length)] + text.substring(at);
            default: return text.substring(0, at) + " " + WORDS[r.nextInt(WORDS.length)] + " " + text.substring(to);
        }
    }

    private static String sound(Random r) {
        List<String> lines = new ArrayList<>();
        addSometimes(r, lines, "lock " + (1 + r.nextInt(20)));
        addSometimes(r, lines, "spring " + (1 + r.nextInt(9)) + " " + (1 + r.nextInt(9)));
        if (r.nextInt(5) == 0) {
            lines.add("latch");
        }
        addSometimes(r, lines, "manners " + r.nextInt(101));
        addSometimes(r, lines, "dark");
        addSometimes(r, lines, "curtain " + r.nextInt(10));
        addSometimes(r, lines, "draw " + r.nextInt(1000));
        int sorts = r.nextInt(r.nextInt(10) == 0 ? 6 : 4);
        for (int i = 0; i < sorts; i++) {
            lines.add("sort " + (char) ('a' + (r.nextInt(30) == 0 ? 0 : i)) + " birds " + r.nextInt(120) + " slips " + either(r, 3));
        }
        int parties = r.nextInt(r.nextInt(10) == 0 ? 15 : 9);
        int late = r.nextInt(3) == 0 ? 300 : 12;
        for (int i = 0; i < parties; i++) {
            lines.add("party " + (1 + r.nextInt(r.nextInt(6) == 0 ? 9 : 3)) + " at " + r.nextInt(late) + (r.nextBoolean() ? " in" : " out")
                + (r.nextInt(4) == 0 ? " pram" : ""));
        }
        Collections.shuffle(lines, r);
        StringBuilder text = new StringBuilder();
        for (String line : lines) {
            text.append(line).append(r.nextInt(5) == 0 ? " ;\n" : ";");
        }
        return text.toString();
    }

    /** A house in which much hangs on order, curtains and manners. */
    static String busy(Random r) {
        StringBuilder text = new StringBuilder();
        text.append("lock ").append(2 + r.nextInt(8)).append(";draw ").append(r.nextInt(1000));
        text.append(";spring ").append(1 + r.nextInt(4)).append(' ').append(1 + r.nextInt(4));
        text.append(";manners ").append(r.nextInt(101)).append(';').append(r.nextInt(6) == 0 ? "latch;" : "");
        String[] slips = {"veil*5+2", "20-veil*9", "gap*30+people", "(veil=week%3)*40", "(slipped<9)*(30-veil*10)", "week*4+night*9",
            "not gap*2+12", "40/(veil+1)", "60-gap*50", "5+(people>2)*20-slipped"};
        int sorts = 1 + r.nextInt(3);
        for (int i = 0; i < sorts; i++) {
            text.append("sort ").append((char) ('a' + i)).append(" birds ").append(r.nextInt(200));
            text.append(" slips ").append(slips[r.nextInt(slips.length)]).append(';');
        }
        int parties = 3 + r.nextInt(8);
        for (int i = 0; i < parties; i++) {
            text.append("party ").append(1 + r.nextInt(3)).append(" at ").append(r.nextInt(20));
            text.append(r.nextBoolean() ? " in" : " out").append(r.nextInt(5) == 0 ? " pram;" : ";");
        }
        return text.toString();
    }

    private static void addSometimes(Random r, List<String> lines, String line) {
        if (r.nextInt(3) > 0) {
            lines.add(line);
        }
    }

    private static String either(Random r, int deep) {
        String[] joints = {" or ", " and ", "<", ">", "=", "+", "-", "*", "/", "%", "+", "*", "*"};
        String left = r.nextInt(8) == 0 ? "not " + unit(r, deep) : unit(r, deep);
        int more = r.nextInt(4);
        for (int i = 0; i < more; i++) {
            left = left + joints[r.nextInt(joints.length)] + unit(r, deep);
        }
        return left;
    }

    private static String unit(Random r, int deep) {
        int pick = r.nextInt(8);
        if (pick == 0 && deep > 0) {
            return "(" + either(r, deep - 1) + ")";
        }
        return pick < 4 ? FACTS[r.nextInt(FACTS.length)] : Integer.toString(pick < 7 ? r.nextInt(100) : r.nextInt(10000));
    }
}
