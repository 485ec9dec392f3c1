import java.util.ArrayList;
import java.util.List;

/** What calls answer of an object, an answer a line, so that two objects can be held against one another. */
final class Looks {
    private Looks() {
    }

    /** All that calls answer that change nothing. */
    static List<String> all(AviaryLock x) {
        List<String> lines = stays(x);
        lines.add("fault(0) " + x.fault(0));
        lines.add("fault(1) " + x.fault(1));
        return lines;
    }

    /** The same but for the fault, which a house() that does nothing else still tells. */
    static List<String> stays(AviaryLock x) {
        List<String> lines = new ArrayList<>();
        for (int i = 0; i < 19; i++) {
            lines.add("about(" + i + ") " + x.about(i));
        }
        moment(x, lines);
        for (int i = 0; i <= x.about(18); i++) {
            lines.add("lies(" + i + ") " + x.lies(i));
        }
        int time = x.about(15);
        for (int sort = 0; sort < x.about(1); sort++) {
            for (int k = Math.max(0, time - 1); k <= time; k++) {
                lines.add("span(" + sort + ", 0, " + k + ") " + x.span(sort, 0, k));
                lines.add("span(" + sort + ", 1, " + k + ") " + x.span(sort, 1, k));
                lines.add("strangers(" + sort + ", " + k + ") " + x.strangers(sort, k));
                lines.add("lost(" + sort + ", " + k + ") " + x.lost(sort, k));
            }
        }
        return lines;
    }

    /** What a box keeps. */
    static List<String> kept(AviaryLock x) {
        List<String> lines = new ArrayList<>();
        for (int i : new int[] {2, 3, 4, 6, 7, 8, 11}) {
            lines.add("about(" + i + ") " + x.about(i));
        }
        moment(x, lines);
        return lines;
    }

    private static void moment(AviaryLock x, List<String> lines) {
        for (int sort = 0; sort < x.about(1); sort++) {
            for (int what = 0; what < 5; what++) {
                lines.add("sort(" + sort + ", " + what + ") " + x.sort(sort, what));
            }
        }
        for (int party = 0; party < x.about(0); party++) {
            for (int what = 0; what < 6; what++) {
                lines.add("party(" + party + ", " + what + ") " + x.party(party, what));
            }
        }
        lines.add("doors " + x.door(0) + " " + x.door(1));
        lines.add("lines " + x.line(0) + " " + x.line(1) + " " + x.line(2));
        int held = 0;
        for (int i = 0; i < 21 && held != AviaryLock.NONE; i++) {
            held = x.board(i);
            lines.add("board(" + i + ") " + held);
        }
    }

    /** What undo, redo and the boxes bring; the object is another one behind it. */
    static List<String> unwound(AviaryLock x) {
        List<String> lines = new ArrayList<>();
        boolean more = true;
        for (int i = 0; i < 41 && more; i++) {
            more = x.undo();
            lines.add("undo() " + more + " " + brief(x));
        }
        more = true;
        for (int i = 0; i < 41 && more; i++) {
            more = x.redo();
            lines.add("redo() " + more + " " + brief(x));
        }
        for (int box = 0; box < 3; box++) {
            lines.add("back(" + box + ") " + x.back(box) + " " + brief(x));
        }
        return lines;
    }

    private static String brief(AviaryLock x) {
        return x.about(2) + " " + x.about(3) + " " + x.about(4) + " " + x.about(7) + " " + x.about(8) + " " + x.about(11) + " "
            + x.sort(0, 0) + " " + x.sort(0, 1) + " " + x.door(0) + " " + x.door(1) + " " + x.board(0);
    }
}
