import java.lang.reflect.InvocationTargetException;
import java.lang.reflect.Method;
import java.lang.reflect.Modifier;
import java.util.ArrayList;
import java.util.Comparator;
import java.util.List;

/** No call throws, whatever it is asked, in several states; the same calls always give the same answers. */
public final class ExtremesTest {
    private static final Check CHECK = new Check("ExtremesTest");
    private static final int[] INTS = {Integer.MIN_VALUE, -1000, -2, -1, 0, 1, 2, 3, 5, 8, 9, 10, 24, 31, 32, 60, 300, 2000, Integer.MAX_VALUE};
    private static final long[] LONGS = {Long.MIN_VALUE, -1, 0, 1, 2, 5, 31, 2147483647L, 2147483648L, 4294967295L, 4294967296L, 1L << 59, Long.MAX_VALUE};
    private static final String[] STATES = {"", "0=x;1=x+1;2=tri 2 1;3=tri 31 3;5=1;8=tri 16 12 tri 4 1;9=tri 12 3",
        "0=x^31;1=(x+1)^31;2=x^5(x+1)^4 tri 2 1^2 tri 3 1 tri 3 2 tri 4 1 tri 4 3 (x^4+x^3+x^2+x+1);3=tri 31 3;5=x^31+1;8=tri 4 1;9=tri 3 1"};

    private static long seed = 7;

    private static int draw(int n) {
        seed = seed * 6364136223846793005L + 1442695040888963407L;
        return (int) Long.remainderUnsigned(seed >>> 33, n);
    }

    private static Object drawn(Class<?> type) {
        if (type == boolean.class) {
            return draw(2) == 0;
        }
        if (type == long.class) {
            return LONGS[draw(LONGS.length)];
        }
        return draw(3) == 0 ? draw(12) - 1 : INTS[draw(INTS.length)];
    }

    private static long call(TriSplits x, Method method, Object[] arguments) throws IllegalAccessException {
        try {
            return ((Number) method.invoke(x, arguments)).longValue();
        } catch (InvocationTargetException e) {
            CHECK.due(method.getName() + " " + List.of(arguments) + " threw " + e.getCause(), 1, 0);
            return 0;
        }
    }

    public static void main(String[] args) throws IllegalAccessException {
        List<Method> methods = new ArrayList<>();
        for (Method m : TriSplits.class.getDeclaredMethods()) {
            if (Modifier.isPublic(m.getModifiers())) {
                methods.add(m);
            }
        }
        methods.sort(Comparator.comparing(Method::getName));
        for (int run = 0; run < 600; run++) {
            TriSplits x = new TriSplits();
            TriSplits y = new TriSplits();
            Check.run(x, STATES[run % STATES.length]);
            Check.run(y, STATES[run % STATES.length]);
            if (run % 2 == 0) {
                x.register(3, 77);
                y.register(3, 77);
            }
            for (int i = 0; i < 100; i++) {
                Method m = methods.get(draw(methods.size()));
                Object[] arguments = new Object[m.getParameterCount()];
                for (int k = 0; k < arguments.length; k++) {
                    arguments[k] = drawn(m.getParameterTypes()[k]);
                }
                CHECK.due(m.getName() + " twice", call(x, m, arguments), call(y, m, arguments));
            }
        }
        CHECK.close();
    }
}
