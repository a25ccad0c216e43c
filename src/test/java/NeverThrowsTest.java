import java.lang.reflect.InvocationTargetException;
import java.lang.reflect.Method;

/** Every call with arguments of all sizes, in many states: nothing is thrown. */
public final class NeverThrowsTest {
    private static final int[] EDGES = {Integer.MIN_VALUE, Integer.MIN_VALUE + 1, -4097, -11, -6, -5, -2, -1, 0, 1, 2,
        3, 4, 5, 6, 7, 8, 9, 10, 31, 32, 63, 64, 100, 127, 128, 511, 512, 4095, 4096, 1 << 30, Integer.MAX_VALUE};
    private static final String[] TEXTS = {"good 99 n<4;harm 98 m>0|y=1", "harm 1 !(!(h=0));note 2",
        "good 5 k>2&p<3;note 99", "note 0", "good 1 n=1", "harm 9 n=1;", ""};
    private static long seed = 7;

    public static void main(String[] args) throws ReflectiveOperationException {
        for (int run = 0; run < 150; run++) {
            run();
        }
        Due.end();
    }

    private static int upTo(int n) {
        seed = seed * 6364136223846793005L + 1442695040888963407L;
        return (int) ((seed >>> 33) % (n + 1));
    }

    private static Object argument(Class<?> type) {
        if (type == boolean.class) {
            return upTo(1) == 0;
        }
        return upTo(2) == 0 ? EDGES[upTo(EDGES.length - 1)] : upTo(6);
    }

    private static void run() throws ReflectiveOperationException {
        DayKnown x = new DayKnown();
        for (int people = upTo(4); people > 0; people--) {
            x.person(upTo(6), upTo(9));
        }
        Method[] calls = DayKnown.class.getDeclaredMethods();
        for (int i = 0; i < 400; i++) {
            if (upTo(30) == 0) {
                Due.town(x, TEXTS[upTo(TEXTS.length - 1)]);
            }
            Method call = calls[upTo(calls.length - 1)];
            if (!java.lang.reflect.Modifier.isPublic(call.getModifiers())) {
                continue;
            }
            Class<?>[] types = call.getParameterTypes();
            Object[] given = new Object[types.length];
            for (int j = 0; j < given.length; j++) {
                given[j] = argument(types[j]);
            }
            boolean ends = true;
            try {
                call.invoke(x, given);
            } catch (InvocationTargetException thrown) {
                ends = false;
                System.out.println(thrown.getCause());
            }
            Due.holds(call.getName() + java.util.Arrays.toString(given) + " throws nothing", ends);
        }
    }
}
