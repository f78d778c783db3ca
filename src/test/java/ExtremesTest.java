import java.lang.reflect.InvocationTargetException;
import java.lang.reflect.Method;
import java.lang.reflect.Modifier;
import java.util.Arrays;
import java.util.Comparator;

/** Every call with arguments at, next to and far beyond all bounds, in several states: as the model answers. */
public final class ExtremesTest {
    private static final int[] VALUES = {Integer.MIN_VALUE, -1000, -999, -1, 0, 1, 2, 3, 4, 7, 8, 15, 16, 600, 999, 1000,
        Integer.MAX_VALUE};
    /** Calls with more than two arguments are asked by fewer, so that all of their rows can be. */
    private static final int[] FEW = {Integer.MIN_VALUE, -1000, -1, 0, 1, 2, 3, 8, 999, Integer.MAX_VALUE};
    private static final int[] FEWEST = {-1000, -999, -1, 0, 1, 2, 999, 1000};
    private static final String KINDS = "kind aa one 20 two 10 three 3 four 5 limit 40;"
        + "kind bb one 8 two 0 three 1 four 2 limit 7;";
    private static final String[] TEXTS = {"", "plate room 1;", "plate room 2;" + KINDS,
        "plate room 2;" + KINDS + "ply aa flat;ply aa cross;ply aa cross;ply aa flat;",
        "plate room 1;" + KINDS + "ply aa flat;ply bb cross;ply aa rise;"};

    private static int asked = 0;
    private static int wrong = 0;

    private PlyStacker x;
    private Model y;
    private int calls;

    /** Both as a text and some acts leave them; acts of one kind until no more may be, if so wanted. */
    private void make(String text, boolean spent) {
        x = new PlyStacker();
        y = new Model();
        calls = 0;
        Feeder.feed(x, text);
        for (int[] n : Feeder.numbers(text)) y.feed(n[0], n[1], n[2], n[3], n[4]);
        y.end(text.length());
        x.plate();
        y.plate();
        x.image(1);
        y.image(1);
        for (int k = 0; k < (spent ? 30 : 1); k++) {
            x.room(7 - k % 2);
            y.room(7 - k % 2);
        }
    }

    private static long answer(Object object, Method method, Object[] given) {
        try {
            method.setAccessible(true);
            return ((Number) method.invoke(object, given)).longValue();
        } catch (InvocationTargetException e) {
            throw new IllegalStateException(method.getName() + Arrays.toString(given) + " threw", e.getCause());
        } catch (ReflectiveOperationException e) {
            throw new IllegalStateException(e);
        }
    }

    private void ask(Method method, Object[] given, String text, boolean spent) throws NoSuchMethodException {
        if (calls > 440) make(text, spent);
        calls++;
        asked++;
        long got = answer(x, method, given);
        long due = answer(y, Model.class.getDeclaredMethod(method.getName(), method.getParameterTypes()), given);
        if (got == due) return;
        wrong++;
        System.out.println(method.getName() + Arrays.toString(given) + " of " + text + " answered " + got + ", due is " + due);
        make(text, spent);
    }

    private void askAll(Method method, String text, boolean spent) throws NoSuchMethodException {
        int n = method.getParameterCount();
        int[] values = n <= 2 ? VALUES : n <= 3 ? FEW : FEWEST;
        int rows = 1;
        for (int k = 0; k < n; k++) rows *= values.length;
        // five arguments have too many rows: each seventh is asked
        int stride = n > 3 ? 7 : 1;
        make(text, spent);
        for (int row = 0; row < rows; row += stride) {
            Object[] given = new Object[n];
            int rest = row;
            for (int k = 0; k < n; k++) {
                given[k] = values[rest % values.length];
                rest /= values.length;
            }
            ask(method, given, text, spent);
        }
    }

    public static void main(String[] args) throws NoSuchMethodException {
        Method[] methods = PlyStacker.class.getDeclaredMethods();
        Arrays.sort(methods, Comparator.comparing(Method::getName));
        int face = 0;
        for (Method method : methods) {
            if (!Modifier.isPublic(method.getModifiers())) continue;
            face++;
            for (String text : TEXTS) {
                new ExtremesTest().askAll(method, text, false);
                new ExtremesTest().askAll(method, text, true);
            }
        }
        System.out.println(face + " calls, " + asked + " answers, " + wrong + " of them not as due");
        if (wrong != 0 || face != 56) System.exit(1);
    }
}
