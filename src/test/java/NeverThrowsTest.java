import java.lang.reflect.InvocationTargetException;
import java.lang.reflect.Method;
import java.lang.reflect.Modifier;
import java.util.Arrays;
import java.util.Comparator;
import java.util.Random;

/** No call throws, whatever its arguments and however many came before; of 512, no answer is out of range. */
public final class NeverThrowsTest {
    private static final int RUNS = 300;
    private static final int CALLS = 2000;
    /** What later calls answer is free, but no call may throw. */
    private static final int PROMISED = 512;
    /** No answer but a finding is below 0, and none above: the HOUR after so many calls of hours(100). */
    private static final int MOST_ANSWER = 100 * PROMISED;
    private static final int[] EDGES = {Integer.MIN_VALUE, Integer.MIN_VALUE + 1, -1000001, -33, -1, 0, 1, 2, 3, 4,
        5, 6, 7, 8, 9, 10, 11, 12, 30, 31, 32, 33, 66, 67, 100, 101, 255, 256, 400, 606, 607, 1005, 1011, 5555,
        6060, 11115, 15550, 20000, 20001, 100000, Integer.MAX_VALUE - 1, Integer.MAX_VALUE};

    public static void main(String[] args) throws IllegalAccessException {
        Due due = new Due();
        Method[] methods = Arrays.stream(WingDesk.class.getDeclaredMethods())
            .filter(m -> Modifier.isPublic(m.getModifiers()))
            .sorted(Comparator.comparing(Method::getName))
            .toArray(Method[]::new);
        for (int run = 0; run < RUNS; run++) {
            Random random = new Random(run);
            WingDesk desk = new WingDesk();
            for (int i = 0; i < CALLS; i++) {
                call(due, desk, methods[random.nextInt(methods.length)], random, i < PROMISED);
            }
        }
        due.end("NeverThrowsTest");
    }

    private static void call(Due due, WingDesk desk, Method method, Random random, boolean isPromised)
            throws IllegalAccessException {
        Object[] arguments = new Object[method.getParameterCount()];
        for (int i = 0; i < arguments.length; i++) {
            arguments[i] = EDGES[random.nextInt(EDGES.length)];
        }
        String call = method.getName() + Arrays.toString(arguments);
        try {
            int answer = (Integer) method.invoke(desk, arguments);
            boolean finding = answer >= Wings.KIND && answer <= Wings.BEYOND;
            due.is(call + " is a finding or a number (" + answer + ")", 1,
                !isPromised || finding || answer >= 0 && answer <= MOST_ANSWER ? 1 : 0);
        } catch (InvocationTargetException thrown) {
            due.is(call + " threw " + thrown.getCause(), 0, 1);
        }
    }
}
