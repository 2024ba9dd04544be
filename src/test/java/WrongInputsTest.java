import java.lang.reflect.InvocationTargetException;
import java.lang.reflect.Method;
import java.lang.reflect.Modifier;
import java.util.ArrayList;
import java.util.Comparator;
import java.util.List;
import java.util.Random;

/** Arguments of all sizes, in all states: no call throws, and what is refused changes nothing. */
public final class WrongInputsTest {
    private static final Check CHECK = new Check("WrongInputsTest");
    private static final int LEAST_ANSWER = -4;
    private static final int[] EDGES = {-1, -2, -3, 0, 1, 2, 3, 4, 5, 6, 7, 10, 22, 23, 24, 25, 61, 97, 400, 401, 8837,
        10006, 10007, 10008, 16383, 16384, 16386, 16391, 20000, 20001, 65536, 49158, 163948310, 163948311,
        Integer.MAX_VALUE, Integer.MIN_VALUE, Integer.MAX_VALUE - 1, Integer.MIN_VALUE + 1};
    private static final long[] LONG_EDGES = {-1, 0, 1, 2, 3, 28, Integer.MAX_VALUE, Integer.MIN_VALUE, 1L << 32,
        Long.MAX_VALUE, Long.MIN_VALUE};
    private final Random random;
    private final PointRings rings = new PointRings();

    private WrongInputsTest(long seed) {
        random = new Random(seed);
    }

    public static void main(String[] args) throws IllegalAccessException {
        List<Method> calls = new ArrayList<>();
        for (Method m : PointRings.class.getDeclaredMethods()) {
            if (Modifier.isPublic(m.getModifiers())) {
                calls.add(m);
            }
        }
        calls.sort(Comparator.comparing(Method::getName));
        for (int seed = 0; seed < 400; seed++) {
            new WrongInputsTest(seed).run(calls);
        }
        CHECK.end();
    }

    private void run(List<Method> calls) throws IllegalAccessException {
        int[][] start = {{5, 1, 1}, {23, 1, 1}, {97, 2, 3}, {10007, 1, 0}, {8837, 1, 0}};
        for (int i = random.nextInt(start.length + 1); i > 0; i--) {
            rings.curve(start[i - 1][0], start[i - 1][1], start[i - 1][2]);
        }
        for (int i = 0; i < 500; i++) {
            Method m = calls.get(random.nextInt(calls.size()));
            Object[] given = given(m);
            String before = state();
            try {
                long answer = ((Number) m.invoke(rings, given)).longValue();
                CHECK.holds(m.getName() + " is no answer: " + answer, answer >= LEAST_ANSWER);
                boolean changes = answer >= 0 && List.of("curve", "twist", "quotient", "drop").contains(m.getName());
                CHECK.holds(m.getName() + " and the state", changes != state().equals(before));
            } catch (InvocationTargetException thrown) {
                CHECK.holds(m.getName() + " threw " + thrown.getCause(), false);
            }
        }
    }

    private String state() {
        StringBuilder told = new StringBuilder().append(rings.curves());
        for (int c = 0; c < rings.curves(); c++) {
            for (int what = 0; what < 3; what++) {
                told.append(' ').append(rings.told(c, what)).append('/').append(rings.kernel(c, what));
            }
        }
        return told.toString();
    }

    private Object[] given(Method m) {
        Class<?>[] types = m.getParameterTypes();
        Object[] given = new Object[types.length];
        for (int i = 0; i < types.length; i++) {
            if (types[i] == boolean.class) {
                given[i] = random.nextBoolean();
            } else if (types[i] == long.class) {
                given[i] = LONG_EDGES[random.nextInt(LONG_EDGES.length)];
            } else {
                given[i] = someInt(i == 0);
            }
        }
        return given;
    }

    /** Often a curve that there is, or a POINT of one, so that calls come past their first test. */
    private int someInt(boolean first) {
        int way = random.nextInt(8);
        if (first && way < 6 && rings.curves() > 0) {
            return random.nextInt(rings.curves());
        }
        if (way < 4 && rings.curves() > 0) {
            return rings.near(random.nextInt(rings.curves()), random.nextInt());
        }
        return way == 7 ? random.nextInt() : EDGES[random.nextInt(EDGES.length)];
    }
}
