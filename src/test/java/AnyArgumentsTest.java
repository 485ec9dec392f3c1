import java.lang.reflect.InvocationTargetException;
import java.lang.reflect.Method;
import java.lang.reflect.Modifier;
import java.util.ArrayList;
import java.util.Arrays;
import java.util.List;

/** Every call with every mix of small, large and extreme arguments, in a new, an early, a busy and a late house: it ends and answers like the model. */
public final class AnyArgumentsTest {
    private static final int[] MANY = {Integer.MIN_VALUE, -1000, -2, -1, 0, 1, 2, 3, 4, 5, 6, 9, 10, 12, 18, 19, 20, 21, 30, 300, 301, 480, 481, 999, 1000, 1001,
        1600, 1601, 2000, 100000, Integer.MAX_VALUE - 300, Integer.MAX_VALUE - 1, Integer.MAX_VALUE};
    private static final int[] SOME = {Integer.MIN_VALUE, -1, 0, 1, 2, 3, 4, 5, 12, 481, Integer.MAX_VALUE};
    private static final int[] FEW = {Integer.MIN_VALUE, -1, 0, 1, 5, Integer.MAX_VALUE};
    private static final int[] TWO = {Integer.MIN_VALUE, 0x6c6f636b};
    private static final int CALLS = 400;
    private static final String TEXT = "lock 5;manners 70;curtain 2;sort a birds 60 slips 30-veil*4+gap*20;sort b birds 7 slips people*9;party 2 at 0 in pram;"
        + "party 1 at 0 out;party 3 at 4 in;party 1 at 6 out;party 2 at 7 in;party 4 at 9 in;";

    private final Check check = new Check("AnyArgumentsTest");
    private AviaryLock x;
    private Model model;
    private int calls;

    private AnyArgumentsTest() {
    }

    public static void main(String[] args) throws ReflectiveOperationException {
        AnyArgumentsTest test = new AnyArgumentsTest();
        for (int scene = 0; scene < 4; scene++) {
            for (Method m : AviaryLock.class.getDeclaredMethods()) {
                if (Modifier.isPublic(m.getModifiers())) {
                    test.begin(scene);
                    test.all(scene, m, 0, new int[m.getParameterCount()]);
                }
            }
        }
        test.check.end();
    }

    private void begin(int scene) throws ReflectiveOperationException {
        x = new AviaryLock();
        model = new Model();
        calls = 0;
        if (scene == 0) {
            return;
        }
        for (int i = 0; i < TEXT.length(); i += 20) {
            call("feed", Texts.five(TEXT, i));
        }
        call("end", TEXT.length());
        call("house");
        if (scene > 1) {
            call("count", 0, 3, 40, 2);
            call("seconds", 5);
            call("image", 1);
            call("veils", 3);
        }
        if (scene > 2) {
            call("seconds", 300);
            call("week");
            call("undo");
            call("later", 7);
            call("order", 2);
        }
    }

    private void all(int scene, Method m, int filled, int[] a) throws ReflectiveOperationException {
        if (filled == a.length) {
            if (calls > CALLS) {
                begin(scene);
            }
            call(m.getName(), a);
            return;
        }
        int[][] byCount = {MANY, MANY, SOME, SOME, FEW, TWO};
        for (int value : byCount[a.length]) {
            a[filled] = value;
            all(scene, m, filled + 1, a);
        }
    }

    private void call(String name, int... a) throws ReflectiveOperationException {
        calls++;
        long number;
        try {
            List<Class<?>> types = new ArrayList<>();
            for (int i = 0; i < a.length; i++) {
                types.add(int.class);
            }
            Object got = AviaryLock.class.getMethod(name, types.toArray(new Class<?>[0])).invoke(x, Arrays.stream(a).boxed().toArray());
            number = got instanceof Boolean b ? b ? 1 : 0 : ((Number) got).longValue();
        } catch (InvocationTargetException e) {
            throw new IllegalStateException(name + Arrays.toString(a), e.getCause());
        }
        check.due(name + Arrays.toString(a), number, model.call(name, a));
    }
}
