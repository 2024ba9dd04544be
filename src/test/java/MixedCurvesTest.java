import java.lang.reflect.InvocationTargetException;
import java.lang.reflect.Method;
import java.lang.reflect.Modifier;
import java.util.ArrayList;
import java.util.Comparator;
import java.util.List;
import java.util.Random;
import java.util.Set;

/** Calls on many curves of many primes in turn answer what they answer on an object with that curve alone. */
public final class MixedCurvesTest {
    private static final Check CHECK = new Check("MixedCurvesTest");
    private static final Set<String> NOT_OF_ONE_CURVE = Set.of("curve", "twist", "map", "quotient", "image", "kernel",
        "census", "kinds", "curves", "drop");
    private static final int[][] CURVES = {{5, 1, 1}, {23, 1, 1}, {97, 2, 3}, {97, 3, 2}, {7, 0, 1}, {7, 3, 0},
        {10007, 1, 0}, {10007, 1, 5}, {8837, 1, 0}, {9901, 0, 1}, {677, 1, 0}, {5, 0, 1}, {61, 2, 5}, {257, 3, 7}};

    public static void main(String[] args) throws IllegalAccessException, InvocationTargetException {
        List<Method> calls = new ArrayList<>();
        for (Method m : PointRings.class.getDeclaredMethods()) {
            if (Modifier.isPublic(m.getModifiers()) && !NOT_OF_ONE_CURVE.contains(m.getName())) {
                calls.add(m);
            }
        }
        calls.sort(Comparator.comparing(Method::getName));
        Random random = new Random(41);
        for (int run = 0; run < 20; run++) {
            PointRings all = new PointRings();
            for (int[] c : CURVES) {
                all.curve(c[0], c[1], c[2]);
            }
            for (int i = 0; i < 450; i++) {
                compare(all, calls.get(random.nextInt(calls.size())), random);
            }
        }
        CHECK.end();
    }

    private static void compare(PointRings all, Method m, Random random)
        throws IllegalAccessException, InvocationTargetException {
        int c = random.nextInt(CURVES.length);
        PointRings one = new PointRings();
        one.curve(CURVES[c][0], CURVES[c][1], CURVES[c][2]);
        int base = one.near(0, random.nextInt());
        Class<?>[] types = m.getParameterTypes();
        Object[] given = new Object[types.length];
        for (int i = 1; i < types.length; i++) {
            if (types[i] == boolean.class) {
                given[i] = random.nextBoolean();
            } else if (types[i] == long.class) {
                given[i] = random.nextLong();
            } else {
                given[i] = random.nextInt(3) == 0 ? random.nextInt(30) : one.times(0, base, random.nextInt(20));
            }
        }
        given[0] = c;
        long got = ((Number) m.invoke(all, given)).longValue();
        given[0] = 0;
        PointRings fresh = new PointRings();
        fresh.curve(CURVES[c][0], CURVES[c][1], CURVES[c][2]);
        CHECK.due(m.getName() + " of curve " + c, got, ((Number) m.invoke(fresh, given)).longValue());
    }
}
