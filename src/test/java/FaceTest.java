import java.lang.reflect.Constructor;
import java.lang.reflect.Field;
import java.lang.reflect.Method;
import java.lang.reflect.Modifier;
import java.util.Arrays;
import java.util.Set;
import java.util.TreeSet;
import java.util.stream.Collectors;

/** The face of the document: just these constants, this constructor and these calls. */
public final class FaceTest {
    private static final Check CHECK = new Check("FaceTest");
    private static final String[] CALLS = {
        "int curve(int,int,int)", "int told(int,int)", "int twist(int)", "int map(int,int)", "int mapped(int,int,int)",
        "int root(int,int)", "int inverse(int,int)", "int power(int,int,long)", "int generator(int)",
        "int point(int,int,int)", "int lift(int,int,boolean)", "int near(int,int)", "int nth(int,int)",
        "int rank(int,int)", "int add(int,int,int)", "int negative(int,int)", "int times(int,int,long)",
        "int alone(int,int,long)", "int count(int)", "long countOver(int,int)", "int bound(int,int)",
        "int proof(int,int)", "int supersingular(int)", "int order(int,int)", "int ofOrder(int,int)",
        "int torsion(int,int)", "int made(int,int)", "int halves(int,int)", "int half(int,int,int)",
        "int log(int,int,int)", "int embedding(int,int)", "int quotient(int,int)", "int image(int,int)",
        "int kernel(int,int)", "int sign(int,int,int,int,int,int)", "int good(int,int,int,int,int,int)",
        "int census(int,int)", "int kinds(int,int)", "int curves()", "int drop()"};

    public static void main(String[] args) {
        Class<PointRings> face = PointRings.class;
        CHECK.holds("public and final", Modifier.isPublic(face.getModifiers()) && Modifier.isFinal(face.getModifiers()));
        methods(face);
        fields(face);
        Constructor<?>[] made = face.getDeclaredConstructors();
        CHECK.holds("one constructor, public, of nothing",
            made.length == 1 && Modifier.isPublic(made[0].getModifiers()) && made[0].getParameterCount() == 0);
        CHECK.end();
    }

    private static void methods(Class<?> face) {
        Set<String> found = new TreeSet<>();
        for (Method m : face.getDeclaredMethods()) {
            if (!Modifier.isPrivate(m.getModifiers())) {
                CHECK.holds(m.getName() + " is public and not static",
                    Modifier.isPublic(m.getModifiers()) && !Modifier.isStatic(m.getModifiers()));
                String types = Arrays.stream(m.getParameterTypes()).map(Class::getName).collect(Collectors.joining(","));
                found.add(m.getReturnType().getName() + " " + m.getName() + "(" + types + ")");
            }
        }
        CHECK.holds("just the calls of the document: " + found, found.equals(new TreeSet<>(Arrays.asList(CALLS))));
    }

    private static void fields(Class<?> face) {
        Set<String> constants = new TreeSet<>();
        for (Field f : face.getDeclaredFields()) {
            if (!Modifier.isPrivate(f.getModifiers())) {
                constants.add(f.getName());
                CHECK.holds(f.getName() + " is a public constant", Modifier.isPublic(f.getModifiers())
                    && Modifier.isStatic(f.getModifiers()) && Modifier.isFinal(f.getModifiers()));
            }
            if (Modifier.isStatic(f.getModifiers())) {
                CHECK.holds(f.getName() + " is final", Modifier.isFinal(f.getModifiers()));
            }
        }
        CHECK.holds("just the constants", constants.equals(Set.of("NONE", "BAD", "NO", "FULL")));
        CHECK.due("NONE", PointRings.NONE, -1);
        CHECK.due("BAD", PointRings.BAD, -2);
        CHECK.due("NO", PointRings.NO, -3);
        CHECK.due("FULL", PointRings.FULL, -4);
    }
}
