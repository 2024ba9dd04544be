import java.util.Random;

/** Curves of greater primes, the greatest among them, and such as have two rings of about the same size. */
public final class LargePrimesTest {
    public static void main(String[] args) {
        Check check = new Check("LargePrimesTest");
        Comparison comparison = new Comparison(check);
        Random random = new Random(7);
        for (int p : new int[] {1009, 1297, 2017, 5003, 9973, 10007}) {
            for (int i = 0; i < 3; i++) {
                comparison.compare(p, random.nextInt(p), random.nextInt(p), 3);
            }
            comparison.compare(p, 0, 1 + random.nextInt(p - 1), 3);
            comparison.compare(p, 1 + random.nextInt(p - 1), 0, 3);
        }
        // p = n^2 + 1: of the curves with b = 0 some have n^2 POINTS, made by two rings of n
        for (int p : new int[] {677, 1297, 8101, 8837}) {
            int g = new Naive(p, 1, 1).generator();
            int a = 1;
            for (int i = 0; i < 4; i++) {
                comparison.compare(p, a, 0, 3);
                a = a * g % p;
            }
        }
        // p = n^2 + n + 1: the same of the curves with a = 0
        for (int p : new int[] {757, 1723, 9901}) {
            int g = new Naive(p, 1, 1).generator();
            int b = 1;
            for (int i = 0; i < 6; i++) {
                comparison.compare(p, 0, b, 3);
                b = b * g % p;
            }
        }
        check.end();
    }
}
