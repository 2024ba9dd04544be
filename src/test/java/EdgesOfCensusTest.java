/** The boundary cases of promises 38 and 39: all curves of a prime; sentence by sentence. */
public final class EdgesOfCensusTest {
    private static final Check CHECK = new Check("EdgesOfCensusTest");
    private static final int[] PRIMES = {5, 7, 11, 13, 17, 19, 23, 29, 31, 37, 41, 43, 47, 53, 59, 61};
    private static final int[] NOT_TAKEN = {2, 3, 4, 9, 25, 49, 57, 60, 62, 63, 67, 97, 10007, 0, 1, -5, -61, Edge.LEAST,
        Edge.GREATEST};

    public static void main(String[] args) {
        justNPoints();
        primesTo61();
        noSuchN();
        censusBad();
        differentJ();
        kindsBad();
        bothChangeNothing();
        CHECK.end();
    }

    private static void justNPoints() {
        CHECK.sentence("38: Of how many a, b there is a curve with just n POINTS");
        PointRings r = new PointRings();
        int[] ofFive = {0, 0, 1, 2, 3, 2, 4, 2, 3, 2, 1, 0};
        for (int n = 0; n < ofFive.length; n++) {
            CHECK.due("census(5, " + n + ")", r.census(5, n), ofFive[n]);
        }
        for (int p : PRIMES) {
            int pairs = 0;
            int least = new Naive(p, 0, 1).bound(0);
            int greatest = new Naive(p, 0, 1).bound(1);
            for (int n = least; n <= greatest; n++) {
                pairs += r.census(p, n);
                CHECK.due("as many as the TWISTS, " + p + ", " + n, r.census(p, n), r.census(p, 2 * p + 2 - n));
            }
            CHECK.due("all a, b of " + p, pairs, p * (p - 1));
        }
    }

    private static void primesTo61() {
        CHECK.sentence("38: p 5 to 61.");
        PointRings r = new PointRings();
        int[][] least = Naive.census(5);
        int[][] greatest = Naive.census(61);
        for (int n = 0; n < 15; n++) {
            CHECK.due("census(5, " + n + ")", r.census(5, n), least[0][n]);
        }
        for (int n = 40; n < 90; n++) {
            CHECK.due("census(61, " + n + ")", r.census(61, n), greatest[0][n]);
        }
        for (int p = -70; p < 200; p++) {
            boolean taken = p >= 5 && p <= 61 && Naive.isPrime(p);
            CHECK.due("census(" + p + ", 0)", r.census(p, 0), taken ? 0 : Edge.BAD);
        }
    }

    private static void noSuchN() {
        CHECK.sentence("38: n that no curve has");
        PointRings r = new PointRings();
        for (int p : PRIMES) {
            Naive e = new Naive(p, 0, 1);
            for (int n : new int[] {0, 1, -1, -p, e.bound(0) - 1, e.bound(1) + 1, 2 * p + 2, 3 * p, Edge.LEAST,
                Edge.GREATEST}) {
                CHECK.due("census(" + p + ", " + n + ")", r.census(p, n), 0);
                CHECK.due("kinds(" + p + ", " + n + ")", r.kinds(p, n), 0);
            }
            CHECK.holds("the least of THE BOUNDS of " + p, r.census(p, e.bound(0)) > 0);
            CHECK.holds("the greatest of THE BOUNDS of " + p, r.census(p, e.bound(1)) > 0);
        }
    }

    private static void censusBad() {
        CHECK.sentence("38: BAD.");
        PointRings r = new PointRings();
        for (int p : NOT_TAKEN) {
            for (int n : new int[] {6, 0, -1, p}) {
                CHECK.due("census(" + p + ", " + n + ")", r.census(p, n), Edge.BAD);
            }
        }
    }

    private static void differentJ() {
        CHECK.sentence("39: How many different j the curves with n POINTS have.");
        PointRings r = new PointRings();
        for (int p : new int[] {5, 7, 11, 13, 31, 61}) {
            int[] kinds = Naive.census(p)[1];
            for (int n = 0; n < kinds.length; n++) {
                CHECK.due("kinds(" + p + ", " + n + ")", r.kinds(p, n), kinds[n]);
            }
        }
        CHECK.due("four pairs a, b with j 0 alone", r.kinds(5, 6), 1);
        CHECK.due("j 1728 alone", r.kinds(5, 2), 1);
        CHECK.due("j 1728 and another one", r.kinds(5, 4), 2);
    }

    private static void kindsBad() {
        CHECK.sentence("39: BAD.");
        PointRings r = new PointRings();
        for (int p : NOT_TAKEN) {
            for (int n : new int[] {6, 0, -1, p}) {
                CHECK.due("kinds(" + p + ", " + n + ")", r.kinds(p, n), Edge.BAD);
            }
        }
    }

    private static void bothChangeNothing() {
        CHECK.sentence("38, 39: they make no curves, and need none");
        PointRings r = new PointRings();
        r.census(61, 62);
        r.kinds(61, 62);
        CHECK.due("curves()", r.curves(), 0);
        PointRings full = Edge.full();
        String before = Edge.state(full);
        CHECK.due("census of a full object", full.census(5, 6), 4);
        CHECK.due("kinds of a full object", full.kinds(5, 6), 1);
        CHECK.holds("the state of a full object", Edge.state(full).equals(before));
        CHECK.due("root, after a census of another prime", full.root(0, 2), 5);
    }
}
