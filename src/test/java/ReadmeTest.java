import java.io.IOException;
import java.lang.reflect.Method;
import java.lang.reflect.Modifier;
import java.net.URL;
import java.net.URLClassLoader;
import java.nio.file.DirectoryStream;
import java.nio.file.Files;
import java.nio.file.Path;
import java.util.Set;
import java.util.TreeSet;
import java.util.regex.Matcher;
import java.util.regex.Pattern;
import javax.tools.ToolProvider;

/** README.md is so: its calls are made as they stand there, and its tables name what there is. */
public final class ReadmeTest {
    private static final Check CHECK = new Check("ReadmeTest");
    private static final Pattern CALL = Pattern.compile("(lock\\.([a-z]+)\\(.*\\)); // (-?[0-9]+|true|false)(?:: .*)?");
    private static final Set<String> CALLED = new TreeSet<>();

    private ReadmeTest() {
    }

    /** What the program made of README.md hands its answers to. */
    public static final class Answers {
        private Answers() {
        }

        public static void due(String call, String got, String want) {
            CHECK.due(call + " is " + got + ", in README.md " + want, got.equals(want), true);
        }
    }

    public static void main(String[] args) throws Exception {
        String page = Files.readString(Path.of("README.md"));
        run(program(page));
        for (Method m : AviaryLock.class.getDeclaredMethods()) {
            if (Modifier.isPublic(m.getModifiers())) {
                CHECK.due(m.getName() + " is called in README.md", CALLED.contains(m.getName()), true);
            }
        }
        CHECK.due("tests told are those that there are", namesIn(section(page, "## Tests"), "Test").equals(tests()), true);
        CHECK.due("classes told are those that there are", namesIn(section(page, "## How it is built"), "").equals(classes()), true);
        CHECK.due(".ci/run can be run", Files.isExecutable(Path.of(".ci/run")), true);
        CHECK.end();
    }

    /** The page's Java as one program: the helper as it stands, the calls with their answers held against those told. */
    private static String program(String page) {
        StringBuilder helpers = new StringBuilder();
        StringBuilder calls = new StringBuilder();
        Matcher blocks = Pattern.compile("(?s)```java\n(.*?)```").matcher(page);
        while (blocks.find()) {
            if (blocks.group(1).startsWith("static ")) {
                helpers.append(blocks.group(1));
            } else {
                for (String line : blocks.group(1).split("\n")) {
                    calls.append(statement(line)).append('\n');
                }
            }
        }
        return "public final class Page {\n" + helpers + "public static void main(String[] args) {\n" + calls + "}\n}\n";
    }

    private static String statement(String line) {
        Matcher m = CALL.matcher(line);
        if (!m.matches()) {
            boolean isBare = line.startsWith("tell(lock, ") || line.equals("AviaryLock lock = new AviaryLock();");
            CHECK.due("each call of README.md has its answer: " + line, isBare, true);
            return line;
        }
        CALLED.add(m.group(2));
        return "ReadmeTest.Answers.due(\"" + m.group(1) + "\", String.valueOf(" + m.group(1) + "), \"" + m.group(3) + "\");";
    }

    private static void run(String program) throws Exception {
        Path dir = Files.createTempDirectory("readme");
        Path source = dir.resolve("Page.java");
        Files.writeString(source, program);
        int failed = ToolProvider.getSystemJavaCompiler().run(null, null, null,
            "-cp", System.getProperty("java.class.path"), "-d", dir.toString(), source.toString());
        CHECK.due("README.md's Java compiles", failed, 0);
        if (failed == 0) {
            try (URLClassLoader loader = new URLClassLoader(new URL[] {dir.toUri().toURL()})) {
                loader.loadClass("Page").getMethod("main", String[].class).invoke(null, (Object) new String[0]);
            }
        }
        Files.deleteIfExists(dir.resolve("Page.class"));
        Files.deleteIfExists(source);
        Files.deleteIfExists(dir);
    }

    private static String section(String page, String head) {
        int from = page.indexOf(head + "\n");
        int to = page.indexOf("\n## ", from + 1);
        return from < 0 ? "" : page.substring(from, to < 0 ? page.length() : to);
    }

    /** Names in the first column of a section's table that end so. */
    private static Set<String> namesIn(String section, String ending) {
        Set<String> names = new TreeSet<>();
        Matcher rows = Pattern.compile("(?m)^\\|([^|]*)\\|").matcher(section);
        while (rows.find()) {
            Matcher m = Pattern.compile("`(\\w+" + ending + ")`").matcher(rows.group(1));
            while (m.find()) {
                names.add(m.group(1));
            }
        }
        return names;
    }

    private static Set<String> tests() throws IOException {
        Set<String> names = new TreeSet<>();
        try (DirectoryStream<Path> files = Files.newDirectoryStream(Path.of("src/test/java"), "*Test.java")) {
            for (Path file : files) {
                names.add(file.getFileName().toString().replace(".java", ""));
            }
        }
        return names;
    }

    private static Set<String> classes() {
        Set<String> names = new TreeSet<>();
        for (Class<?> c : AviaryLock.class.getDeclaredClasses()) {
            names.add(c.getSimpleName());
        }
        return names;
    }
}
