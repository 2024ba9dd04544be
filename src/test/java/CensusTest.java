/** All curves of the primes up to 61, each tried out. */
public final class CensusTest {
    public static void main(String[] args) {
        Check check = new Check("CensusTest");
        PointRings r = new PointRings();
        for (int p : new int[] {5, 7, 11, 13, 17, 19, 23, 29, 31, 37, 41, 43, 47, 53, 59, 61}) {
            int[][] census = Naive.census(p);
            for (int n = 0; n < 3 * p; n++) {
                check.due("census(" + p + ", " + n + ")", r.census(p, n), census[0][n]);
                check.due("kinds(" + p + ", " + n + ")", r.kinds(p, n), census[1][n]);
            }
        }
        check.end();
    }
}
