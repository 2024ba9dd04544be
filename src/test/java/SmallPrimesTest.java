import java.util.Random;

/** All curves of the least primes, and some of primes up to some hundreds. */
public final class SmallPrimesTest {
    public static void main(String[] args) {
        Check check = new Check("SmallPrimesTest");
        Comparison comparison = new Comparison(check);
        for (int p : new int[] {5, 7, 11, 13}) {
            for (int a = 0; a < p; a++) {
                for (int b = 0; b < p; b++) {
                    comparison.compare(p, a, b, 1000);
                }
            }
        }
        Random random = new Random(5);
        for (int p : new int[] {17, 19, 29, 31, 37, 61, 67, 97, 101, 151, 229, 241, 257, 337, 401, 457}) {
            for (int i = 0; i < 25; i++) {
                comparison.compare(p, random.nextInt(p), random.nextInt(p), 10);
            }
            comparison.compare(p, 0, 1 + random.nextInt(p - 1), 10);
            comparison.compare(p, 1 + random.nextInt(p - 1), 0, 10);
        }
        check.end();
    }
}
