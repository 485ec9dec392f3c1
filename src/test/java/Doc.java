import java.io.IOException;
import java.nio.charset.StandardCharsets;
import java.nio.file.Files;
import java.nio.file.Path;
import java.util.ArrayList;
import java.util.List;

/** The document's words; tests quote those that they hold, so that the words that no test quoted can be told. */
final class Doc {
    static final int TERMS = 0;
    static final int PROMISES = 45;
    private final String[] parts = new String[PROMISES + 1];
    private final boolean[][] quoted = new boolean[PROMISES + 1][];

    Doc(Path file) throws IOException {
        String all = Files.readString(file, StandardCharsets.UTF_8);
        String terms = section(all, "## Terms");
        keep(TERMS, terms.replace("```text", " ").replace("```", " ").replaceAll("==== \\d\\.", " "));
        for (int number = 1; number <= PROMISES; number++) {
            String promise = section(all, "## Promise " + number + ":");
            keep(number, promise.substring(promise.indexOf("`: ") + 3));
        }
    }

    private static String section(String all, String title) {
        int from = all.indexOf(title);
        int next = all.indexOf("\n## ", from);
        return all.substring(from + title.length(), next);
    }

    private void keep(int part, String words) {
        parts[part] = words.trim().replaceAll("\\s+", " ");
        quoted[part] = new boolean[parts[part].length()];
    }

    static String name(int part) {
        return part == TERMS ? "Terms" : "Promise " + part;
    }

    /** Whether the words stand once in the part; twice would leave open which ones are meant. */
    boolean quote(int part, String words) {
        int from = parts[part].indexOf(words);
        if (from < 0 || from != parts[part].lastIndexOf(words)) {
            return false;
        }
        for (int i = from; i < from + words.length(); i++) {
            quoted[part][i] = true;
        }
        return true;
    }

    /** The words of a part that no test quoted; signs between quotes are no words. */
    List<String> unquoted(int part) {
        List<String> left = new ArrayList<>();
        StringBuilder run = new StringBuilder();
        for (int i = 0; i <= parts[part].length(); i++) {
            if (i < parts[part].length() && !quoted[part][i]) {
                run.append(parts[part].charAt(i));
                continue;
            }
            if (run.toString().matches(".*[A-Za-z0-9].*")) {
                left.add(run.toString());
            }
            run.setLength(0);
        }
        return left;
    }
}
