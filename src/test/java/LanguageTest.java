import java.io.IOException;
import java.lang.reflect.Field;
import java.lang.reflect.Method;
import java.lang.reflect.Modifier;
import java.nio.file.Files;
import java.nio.file.Path;
import java.util.Arrays;
import java.util.HashSet;
import java.util.List;
import java.util.Set;
import java.util.TreeSet;
import java.util.regex.Matcher;
import java.util.regex.Pattern;

/** What of ../shared/LANGUAGE.md can be seen from the source's text and the compiled class. */
public final class LanguageTest {
    private static final String FACE = "about back board chance count crossings curtain day door dusk end fault feed food gone holders holds "
        + "house image large later lies line lost net opened order party peak polite redo seconds sort span springs strangers stuck then "
        + "undo untell veils week without worth";
    private static final Check CHECK = new Check("LanguageTest");

    private LanguageTest() {
    }

    public static void main(String[] args) throws IOException {
        Path file = Path.of("src/main/java/AviaryLock.java");
        String source = Files.readString(file);
        face();
        forbidden(withoutComments(source));
        methods(source);
        shapes();
        CHECK.end();
    }

    private static void face() throws IOException {
        Set<String> names = new TreeSet<>();
        Set<String> lines = new TreeSet<>();
        for (Method m : AviaryLock.class.getDeclaredMethods()) {
            if (Modifier.isPublic(m.getModifiers())) {
                names.add(m.getName());
                lines.add(Modifier.toString(m.getModifiers()) + " " + m.getReturnType() + " " + m.getName() + types(m.getParameterTypes()));
            } else {
                CHECK.due(m.getName() + " is private", Modifier.isPrivate(m.getModifiers()), true);
            }
        }
        CHECK.due("the face is the document's: " + names, String.join(" ", names).equals(FACE), true);
        for (Field f : AviaryLock.class.getDeclaredFields()) {
            CHECK.due(f.getName() + " is private", Modifier.isPrivate(f.getModifiers()), !f.getName().equals("NONE"));
        }
        CHECK.due("one constructor", AviaryLock.class.getDeclaredConstructors().length, 1);
        CHECK.due("it is public, without arguments", AviaryLock.class.getConstructors()[0].toString().equals("public AviaryLock()"), true);
        CHECK.due("the class is public and final", Modifier.toString(AviaryLock.class.getModifiers()).equals("public final"), true);
        CHECK.due("NONE", AviaryLock.NONE, -1);
        CHECK.due("types are the document's", lines.equals(facesOfDocument()), true);
    }

    private static String types(Class<?>[] types) {
        return Arrays.toString(types);
    }

    /** Each method of the document's face, without its arguments' names. */
    private static Set<String> facesOfDocument() throws IOException {
        Set<String> lines = new TreeSet<>();
        String document = Files.readString(Path.of("../shared/DOC.md"));
        Matcher m = Pattern.compile("(?m)^    (public [a-z]+ [a-z]+)\\((.*)\\);$").matcher(document);
        while (m.find()) {
            String types = m.group(2).replaceAll("([a-z]+) [a-z]+", "$1");
            lines.add(m.group(1) + "[" + types + "]");
        }
        CHECK.due("methods of the document's face", lines.size(), 44);
        return lines;
    }

    private static String withoutComments(String source) {
        return source.replaceAll("//[^\n]*", "").replaceAll("(?s)/\\*.*?\\*/", "");
    }

    private static void forbidden(String source) {
        String code = source.replaceAll("\"[^\"]*\"", "\"\"");
        for (String word : List.of("throw", "throws", "try", "catch", "synchronized", "assert", "package", "float", "double", "var",
            "yield", "protected", "transient", "volatile", "native")) {
            CHECK.due("no " + word, Pattern.compile("\\b" + word + "\\b").matcher(code).find(), false);
        }
        for (String sign : List.of("->", "::", "@", "\"\"\"", "\" +", "+ \"")) {
            CHECK.due("no " + sign, code.contains(sign), false);
        }
        Matcher imports = Pattern.compile("import ([^;]*);").matcher(source);
        while (imports.find()) {
            CHECK.due("import " + imports.group(1), imports.group(1).equals("java.util.Arrays"), true);
        }
        Matcher library = Pattern.compile("\\b(Math|System|Arrays|Integer|Long|String)\\.([a-zA-Z]+)").matcher(code);
        while (library.find()) {
            CHECK.due(library.group(), List.of("max", "min", "arraycopy", "fill").contains(library.group(2)), true);
        }
    }

    private static void methods(String source) {
        Set<String> face = new HashSet<>(Arrays.asList(FACE.split(" ")));
        String[] lines = source.split("\n");
        Pattern head = Pattern.compile("^( {4}| {8})(?:(public|private) )?(?:static )?(?:final )?[A-Za-z\\[\\]]+ ([a-zA-Z]+)\\((.*)\\) \\{$");
        for (int i = 0; i < lines.length; i++) {
            Matcher m = head.matcher(lines[i]);
            if (!m.matches()) {
                continue;
            }
            int end = i;
            while (!lines[end].equals(m.group(1) + "}")) {
                end++;
            }
            CHECK.due(m.group(3) + " is short", end - i < 60, true);
            CHECK.due(m.group(3) + " has few parameters", m.group(4).split(",").length <= 7, true);
            CHECK.due(m.group(3) + " bears its own name", "public".equals(m.group(2)), face.contains(m.group(3)));
        }
        CHECK.due("no long line", Arrays.stream(lines).mapToInt(String::length).max().orElse(0) <= 160, true);
    }

    private static void shapes() {
        Class<?>[] inside = AviaryLock.class.getDeclaredClasses();
        CHECK.due("at most some twelve classes", inside.length <= 12, true);
        for (Class<?> c : inside) {
            CHECK.due(c + " is static", Modifier.isStatic(c.getModifiers()), true);
            long fields = Arrays.stream(c.getDeclaredFields()).filter(f -> !Modifier.isStatic(f.getModifiers())).count();
            CHECK.due(c + " has few fields", fields <= 20, true);
            for (Field f : c.getDeclaredFields()) {
                boolean isStatic = Modifier.isStatic(f.getModifiers());
                CHECK.due(f + " is final if static", !isStatic || Modifier.isFinal(f.getModifiers()), true);
            }
        }
    }
}
