import java.lang.reflect.InvocationTargetException;
import java.lang.reflect.Method;
import java.util.ArrayList;
import java.util.Arrays;
import java.util.List;
import java.util.Random;

/** Long runs of calls by told seeds, on the class and on the plain model: both answer alike. */
public final class ModelRunsTest {
    private static final int RUNS = 120;
    private static final int CALLS = 512;
    private static final String[] OFTEN = {"seconds", "seconds", "seconds", "sort", "party", "about", "about", "undo", "redo",
        "week", "curtain", "dusk", "food", "net", "count", "count", "span", "day", "door", "line", "back", "image"};

    private final Check check = new Check("ModelRunsTest");
    private final Random random;
    private final List<Method> methods = new ArrayList<>();
    private AviaryLock x;
    private Model model;
    private String trail = "";

    private ModelRunsTest(int seed) {
        random = new Random(seed);
        for (Method m : AviaryLock.class.getDeclaredMethods()) {
            if (java.lang.reflect.Modifier.isPublic(m.getModifiers())) {
                methods.add(m);
            }
        }
        methods.sort((a, b) -> a.getName().compareTo(b.getName()));
    }

    public static void main(String[] args) throws ReflectiveOperationException {
        int runs = args.length > 0 ? Integer.parseInt(args[0]) : RUNS;
        int seed = args.length > 1 ? Integer.parseInt(args[1]) : 1;
        ModelRunsTest test = new ModelRunsTest(seed);
        for (int run = 0; run < runs; run++) {
            test.run(run);
        }
        test.check.end();
    }

    private void run(int run) throws ReflectiveOperationException {
        x = new AviaryLock();
        model = new Model();
        int calls = CALLS;
        for (int i = 0; i < calls; i++) {
            trail = "run " + run + " call " + i;
            if (i == 0 || random.nextInt(150) == 0) {
                i += tellHouse();
            } else {
                callAny();
            }
        }
    }

    private int tellHouse() throws ReflectiveOperationException {
        String text = Houses.any(random);
        call("end", 0);
        int calls = 1;
        for (int i = 0; i < text.length(); i += 20) {
            call("feed", Texts.five(text, i));
            calls++;
        }
        call("end", text.length());
        call("house");
        call("fault", 0);
        call("fault", 1);
        call("about", 17);
        return calls + 5;
    }

    private void callAny() throws ReflectiveOperationException {
        String name = random.nextInt(3) > 0 ? OFTEN[random.nextInt(OFTEN.length)] : methods.get(random.nextInt(methods.size())).getName();
        if (name.equals("feed") || name.equals("end") || name.equals("house")) {
            return;
        }
        int n = method(name).getParameterCount();
        int[] a = new int[n];
        for (int i = 0; i < n; i++) {
            a[i] = argument(name, i);
        }
        call(name, a);
    }

    private int argument(String name, int i) {
        int pick = random.nextInt(40);
        if (pick == 0) {
            return new int[] {Integer.MIN_VALUE, Integer.MAX_VALUE, -1, 1000, 481}[random.nextInt(5)];
        }
        switch (name) {
            case "seconds": return random.nextInt(pick < 4 ? 320 : 9);
            case "count": return i == 0 ? random.nextInt(5) : i == 1 ? random.nextInt(200) : i == 2 ? random.nextInt(490) : random.nextInt(60);
            case "untell": return random.nextInt(32);
            case "later": return random.nextInt(pick < 4 ? 1010 : 4);
            case "span": return i == 2 ? random.nextInt(40) - 1 : random.nextInt(4);
            case "strangers":
            case "lost": return i == 1 ? random.nextInt(40) - 1 : random.nextInt(4);
            case "about": return random.nextInt(20);
            case "party": return i == 0 ? random.nextInt(13) : random.nextInt(7);
            case "polite": return random.nextInt(60);
            case "large": return random.nextInt(40);
            case "board": return random.nextInt(22) - 1;
            case "food":
            case "curtain": return random.nextInt(11);
            default: return random.nextInt(7) - 1;
        }
    }

    private Method method(String name) {
        for (Method m : methods) {
            if (m.getName().equals(name)) {
                return m;
            }
        }
        throw new IllegalArgumentException(name);
    }

    private void call(String name, int... a) throws ReflectiveOperationException {
        Object[] boxed = Arrays.stream(a).boxed().toArray();
        Object got;
        try {
            got = method(name).invoke(x, boxed);
        } catch (InvocationTargetException e) {
            throw new IllegalStateException(trail + ": " + name + Arrays.toString(a), e.getCause());
        }
        long number = got instanceof Boolean b ? b ? 1 : 0 : ((Number) got).longValue();
        check.due(trail + ": " + name + Arrays.toString(a), number, model.call(name, a));
    }
}
