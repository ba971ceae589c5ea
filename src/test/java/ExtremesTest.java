import java.lang.reflect.Method;
import java.util.Arrays;
import java.util.Comparator;

/** Every call with all mixes of numbers from far below to far above: no call throws, and each answers as the model does. */
public final class ExtremesTest {
    private static final int CALLS = 400;
    private static final int MAX = Integer.MAX_VALUE;
    private static final int MIN = Integer.MIN_VALUE;
    private static final int[] FEW = {MIN, -1, 0, 1, 3, 60, MAX};
    private static final int[] MANY = {
        MIN, MIN + 1, -10002, -1000, -999, -129, -51, -50, -2, -1, 0, 1, 2, 3, 4, 5, 6, 7, 8, 9, 15, 16, 19, 20, 23, 24,
        25, 29, 30, 31, 50, 51, 59, 60, 61, 99, 100, 127, 128, 255, 256, 999, 1000, MAX - 1, MAX,
    };
    private static int wrong = 0;

    private StoneVotes x;
    private PlainModel model;
    private int calls = CALLS;

    public static void main(String[] args) throws Exception {
        Method[] methods = StoneVotes.class.getDeclaredMethods();
        Arrays.sort(methods, Comparator.comparing(Method::getName));
        ExtremesTest test = new ExtremesTest();
        for (Method m : methods) {
            if (java.lang.reflect.Modifier.isPublic(m.getModifiers())) {
                test.callWithAll(m, new Object[m.getParameterCount()], 0);
            }
        }
        System.out.println(wrong == 0 ? "ExtremesTest: all answers are alike" : "ExtremesTest: unlike answers");
        if (wrong != 0) {
            System.exit(1);
        }
    }

    private void callWithAll(Method m, Object[] numbers, int from) throws Exception {
        if (from == numbers.length) {
            compare(m, numbers);
            return;
        }
        for (int v : numbers.length <= 2 ? MANY : FEW) {
            numbers[from] = v;
            callWithAll(m, numbers, from + 1);
        }
    }

    private void compare(Method m, Object[] numbers) throws Exception {
        if (calls >= CALLS) {
            begin();
        }
        calls++;
        Method asked = PlainModel.class.getDeclaredMethod(m.getName(), m.getParameterTypes());
        long got = ((Number) m.invoke(x, numbers)).longValue();
        long want = ((Number) asked.invoke(model, numbers)).longValue();
        if (got != want && wrong < 20) {
            wrong++;
            System.out.println(m.getName() + Arrays.toString(numbers) + " answered " + got + ", due is " + want);
        }
    }

    /** An object is used for 512 calls at most: behind some of them a new one, made ready anew. */
    private void begin() {
        x = new StoneVotes();
        model = new PlainModel();
        calls = 0;
        for (char b : "9y5n".toCharArray()) {
            x.type(0, b);
            model.type(0, b);
        }
        for (char b : "50904132".toCharArray()) {
            x.type(1, b);
            model.type(1, b);
        }
        for (int s = 0; s <= 2; s++) {
            x.sheet(s, s / 2, 6 * s);
            model.sheet(s, s / 2, 6 * s);
            x.carry(s / 2, s, 5);
            model.carry(s / 2, s, 5);
        }
    }
}
