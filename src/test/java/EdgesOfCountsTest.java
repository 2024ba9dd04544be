import java.math.BigInteger;
import java.util.List;

/** The boundary cases of promises 20 to 32: counts, orders, makers, halves, logarithms; sentence by sentence. */
public final class EdgesOfCountsTest {
    private static final Check CHECK = new Check("EdgesOfCountsTest");
    /** N is the greatest of THE BOUNDS; that of its TWIST is the least. */
    private static final int[] MOST_POINTS = {10007, 5, 200};

    public static void main(String[] args) {
        theCount();
        countsOver();
        countsOverBad();
        theBounds();
        boundsBad();
        theLeastProof();
        justOneMultiple();
        multiplesAtTheBounds();
        proofOfTheTwist();
        noProof();
        proofBad();
        supersingularOrNot();
        orderOfAPoint();
        manyOfAnOrder();
        orderBelowOne();
        manyToInfinity();
        torsionBelowOne();
        twoRings();
        oneRing();
        theLeastMakers();
        madeBad();
        howManyHalves();
        halfByOrder();
        halfNone();
        CHECK.end();
    }

    private static PointRings with(int[] e) {
        return Edge.with(e[0], e[1], e[2]);
    }

    private static void theCount() {
        CHECK.sentence("20: N. BAD.");
        CHECK.due("the least N of 5", Edge.with(5, 2, 0).count(0), 2);
        CHECK.due("the greatest N of 5", Edge.with(5, 3, 0).count(0), 10);
        CHECK.due("N is p", Edge.with(5, 3, 2).count(0), 5);
        CHECK.due("the greatest N of all", with(MOST_POINTS).count(0), 10208);
        PointRings r = with(MOST_POINTS);
        r.twist(0);
        CHECK.due("the least N of 10007", r.count(1), 9808);
        for (int c : Edge.noCurves(2)) {
            CHECK.due("of no curve", r.count(c), Edge.BAD);
        }
    }

    private static void countsOver() {
        CHECK.sentence("21: How many POINTS it has over the numbers of p^k (k 1 to 4).");
        for (int[] e : new int[][] {{5, 2, 0}, {5, 3, 0}, {5, 0, 1}, {97, 2, 3}, MOST_POINTS, {10007, 125, 4986},
            {10007, 1, 0}}) {
            PointRings r = with(e);
            for (int k = 1; k <= 4; k++) {
                CHECK.due("k " + k + " of " + e[0], r.countOver(0, k), over(e[0], r.count(0), k));
            }
        }
        CHECK.due("k 1 is N", with(MOST_POINTS).countOver(0, 1), 10208);
        CHECK.due("k 4 of the greatest", with(MOST_POINTS).countOver(0, 4), 10028029214562304L);
        for (int p : new int[] {5, 7}) {
            for (int a = 0; a < p; a++) {
                for (int b = 0; b < p; b++) {
                    if (Naive.isCurve(p, a, b)) {
                        CHECK.due("k 2, counted", Edge.with(p, a, b).countOver(0, 2), countedOverSquare(p, a, b));
                    }
                }
            }
        }
    }

    private static long over(int p, int n, int k) {
        BigInteger trace = BigInteger.valueOf(p + 1 - n);
        BigInteger before = BigInteger.TWO;
        BigInteger latest = trace;
        for (int i = 2; i <= k; i++) {
            BigInteger next = trace.multiply(latest).subtract(BigInteger.valueOf(p).multiply(before));
            before = latest;
            latest = next;
        }
        return BigInteger.valueOf(p).pow(k).add(BigInteger.ONE).subtract(latest).longValueExact();
    }

    /** Over the numbers u + v t, t^2 being the least number that is no square. */
    private static int countedOverSquare(int p, int a, int b) {
        int d = new Naive(p, a, b).noSquare();
        int many = 1;
        for (int x = 0; x < p * p; x++) {
            for (int y = 0; y < p * p; y++) {
                int cube = product(product(x, x, p, d), x, p, d);
                int first = (cube % p + a * (x % p) + b) % p;
                int second = (cube / p + a * (x / p)) % p;
                many += product(y, y, p, d) == first + p * second ? 1 : 0;
            }
        }
        return many;
    }

    private static int product(int s, int t, int p, int d) {
        int first = (s % p) * (t % p) + d * (s / p) * (t / p);
        int second = (s % p) * (t / p) + (s / p) * (t % p);
        return first % p + p * (second % p);
    }

    private static void countsOverBad() {
        CHECK.sentence("21: (k 1 to 4). BAD.");
        PointRings r = Edge.with(97, 2, 3);
        for (int k : new int[] {0, 5, -1, -4, Edge.LEAST, Edge.GREATEST}) {
            CHECK.due("k " + k, r.countOver(0, k), Edge.BAD);
        }
        for (int c : Edge.noCurves(1)) {
            CHECK.due("of no curve", r.countOver(c, 1), Edge.BAD);
            CHECK.due("of no curve, k 4", r.countOver(c, 4), Edge.BAD);
        }
    }

    private static void theBounds() {
        CHECK.sentence("22: THE BOUNDS: the least (0), the greatest (1).");
        int[][] bounds = {{5, 2, 10}, {7, 3, 13}, {11, 6, 18}, {97, 79, 117}, {101, 82, 122}, {9973, 9775, 10173},
            {10007, 9808, 10208}};
        for (int[] of : bounds) {
            PointRings r = Edge.with(of[0], 0, 1);
            CHECK.due("the least of " + of[0], r.bound(0, 0), of[1]);
            CHECK.due("the greatest of " + of[0], r.bound(0, 1), of[2]);
        }
        for (int p = 5; p <= Edge.MOST_PRIME; p++) {
            if (Naive.isPrime(p)) {
                PointRings r = Edge.with(p, 0, 1);
                int off = p + 1 - r.bound(0, 0);
                CHECK.due("both as far from p + 1", r.bound(0, 1) - p - 1, off);
                CHECK.holds("at most 4 p, and no more is: " + p, off * off <= 4 * p && (off + 1) * (off + 1) > 4 * p);
            }
        }
    }

    private static void boundsBad() {
        CHECK.sentence("22: BAD.");
        PointRings r = Edge.with(97, 2, 3);
        for (int what : new int[] {-1, 2, 3, Edge.LEAST, Edge.GREATEST}) {
            CHECK.due("what " + what, r.bound(0, what), Edge.BAD);
        }
        for (int c : Edge.noCurves(1)) {
            CHECK.due("of no curve", r.bound(c, 0), Edge.BAD);
            CHECK.due("of no curve", r.bound(c, 1), Edge.BAD);
        }
    }

    private static void theLeastProof() {
        CHECK.sentence("23: The least POINT that PROVES N: of the curve (side 0)");
        CHECK.due("the first", Edge.with(5, 2, 1).proof(0, 0), 1);
        CHECK.due("not the first: of ORDER 10", Edge.with(5, 3, 0).proof(0, 0), Edge.pair(2, 2));
        CHECK.due("not the first", Edge.with(97, 5, 2).proof(0, 0), Edge.pair(1, 28));
        CHECK.due("far from the first", Edge.with(97, 9, 10).proof(0, 0), 196618);
        CHECK.due("of the greatest N", with(MOST_POINTS).proof(0, 0), 3611);
    }

    private static void justOneMultiple() {
        CHECK.sentence("23: PROVES N, if just one multiple of its ORDER is within THE BOUNDS");
        // THE BOUNDS of 5 are 2 to 10: 6 to 10 have one multiple there, 2 to 5 have two or more
        int[][] curves = {{2, 0, 2}, {4, 2, 3}, {1, 2, 4}, {3, 2, 5}, {0, 1, 6}, {2, 1, 7}, {4, 1, 8}, {1, 1, 9},
            {3, 0, 10}};
        for (int[] e : curves) {
            PointRings r = Edge.with(5, e[0], e[1]);
            CHECK.due("N", r.count(0), e[2]);
            CHECK.due("one ring", r.made(0, 1), e[2]);
            CHECK.due("N " + e[2], r.proof(0, 0), e[2] > 5 ? r.made(0, 2) : Edge.NONE);
        }
        for (int[] e : new int[][] {{7, 0, 3}, {7, 1, 1}, {11, 1, 1}, {13, 1, 0}, {31, 0, 7}, {31, 1, 9}, {97, 7, 0}}) {
            int due = new Naive(e[0], e[1], e[2]).proof();
            CHECK.due("of " + e[0] + ", " + e[1] + ", " + e[2], with(e).proof(0, 0), due);
        }
    }

    private static void multiplesAtTheBounds() {
        CHECK.sentence("23: is within THE BOUNDS");
        CHECK.due("N 5 and 10, the greatest of 5", Edge.with(5, 3, 2).proof(0, 0), Edge.NONE);
        CHECK.due("N 13, the greatest of 7 itself", Edge.with(7, 0, 3).proof(0, 0), Edge.pair(1, 2));
        CHECK.due("N 7 and 14, beyond the greatest of 7", Edge.with(7, 0, 5).proof(0, 0), Edge.pair(3, 2));
        CHECK.due("N 11 and 22, beyond the greatest of 13", Edge.with(13, 7, 6).proof(0, 0), Edge.pair(1, 1));
        CHECK.due("ORDER 10: 20 and 10, the least of 17", Edge.with(17, 2, 0).proof(0, 0), Edge.NONE);
        CHECK.due("ORDER 10, the least of 17, then 20", Edge.with(17, 4, 14).proof(0, 0), Edge.pair(4, 3));
        CHECK.due("ORDER 9: 18 and 9, below the least of 17", Edge.with(17, 0, 1).proof(0, 0), Edge.pair(1, 6));
    }

    private static void proofOfTheTwist() {
        CHECK.sentence("23: of its TWIST, for which N is 2 p + 2 less that of the curve (1)");
        CHECK.due("N 2, that of the TWIST 10", Edge.with(5, 2, 0).proof(0, 1), Edge.pair(2, 2));
        CHECK.due("of both sides there are", Edge.with(97, 5, 2).proof(0, 1), Edge.pair(3, 19));
        CHECK.due("NONE of the curve, but of the TWIST", Edge.with(31, 0, 7).proof(0, 1), Edge.pair(1, 2));
        CHECK.due("rings of 94 and 94, but of the TWIST", Edge.with(8837, 1, 0).proof(0, 1), 84688);
        CHECK.due("of the least N", with(MOST_POINTS).proof(0, 1), 17136);
        for (int[] e : new int[][] {{41, 1, 1}, {41, 1, 2}, {41, 2, 1}, {409, 1, 1}}) {
            int due = new Naive(e[0], e[1], e[2]).twist().proof();
            CHECK.due("of " + e[0] + ", " + e[1] + ", " + e[2], with(e).proof(0, 1), due);
        }
        PointRings r = Edge.with(97, 5, 2);
        r.proof(0, 1);
        CHECK.due("makes no curve", r.curves(), 1);
        CHECK.due("N stays", r.count(0), new Naive(97, 5, 2).points.size());
        CHECK.due("side 0 after side 1", r.proof(0, 0), Edge.pair(1, 28));
    }

    private static void noProof() {
        CHECK.sentence("23: BAD; NONE.");
        CHECK.due("N 2", Edge.with(5, 2, 0).proof(0, 0), Edge.NONE);
        CHECK.due("of the TWIST, N 2", Edge.with(5, 3, 0).proof(0, 1), Edge.NONE);
        CHECK.due("neither side: 0", Edge.with(5, 1, 0).proof(0, 0), Edge.NONE);
        CHECK.due("neither side: 1", Edge.with(5, 1, 0).proof(0, 1), Edge.NONE);
        CHECK.due("rings of 94 and 94", Edge.with(8837, 1, 0).proof(0, 0), Edge.NONE);
        CHECK.due("of the curve alone", Edge.with(31, 0, 7).proof(0, 0), Edge.NONE);
        CHECK.due("of the TWIST alone", Edge.with(31, 0, 3).proof(0, 1), Edge.NONE);
    }

    private static void proofBad() {
        CHECK.sentence("23: BAD");
        PointRings r = Edge.with(97, 2, 3);
        for (int side : new int[] {-1, 2, 3, Edge.LEAST, Edge.GREATEST}) {
            CHECK.due("side " + side, r.proof(0, side), Edge.BAD);
        }
        for (int c : Edge.noCurves(1)) {
            CHECK.due("of no curve", r.proof(c, 0), Edge.BAD);
            CHECK.due("of no curve", r.proof(c, 1), Edge.BAD);
        }
    }

    private static void supersingularOrNot() {
        CHECK.sentence("24: Whether p divides the TRACE (1, 0). BAD.");
        CHECK.due("TRACE 0, p 5", Edge.with(5, 0, 1).supersingular(0), 1);
        CHECK.due("TRACE 0, p 10007", Edge.with(10007, 1, 0).supersingular(0), 1);
        CHECK.due("TRACE 1", Edge.with(5, 3, 2).supersingular(0), 0);
        CHECK.due("TRACE 4, the greatest", Edge.with(5, 2, 0).supersingular(0), 0);
        CHECK.due("TRACE -4, the least", Edge.with(5, 3, 0).supersingular(0), 0);
        CHECK.due("TRACE -1", Edge.with(5, 2, 1).supersingular(0), 0);
        CHECK.due("TRACE -200", with(MOST_POINTS).supersingular(0), 0);
        for (int c : Edge.noCurves(1)) {
            CHECK.due("of no curve", Edge.with(5, 0, 1).supersingular(c), Edge.BAD);
        }
    }

    private static void orderOfAPoint() {
        CHECK.sentence("25: The ORDER of a POINT. BAD. (the least k above 0)");
        PointRings r = Edge.with(23, 1, 1);
        CHECK.due("INFINITY", r.order(0, Edge.INFINITY), 1);
        CHECK.due("y 0", r.order(0, Edge.pair(4, 0)), 2);
        CHECK.due("0, 0", Edge.with(5, 1, 0).order(0, 0), 2);
        CHECK.due("N", r.order(0, 1), 28);
        CHECK.due("the greatest prime one here", Edge.with(10007, 2, 30).order(0, 16667), 10091);
        CHECK.due("n2 of the greatest N", with(MOST_POINTS).order(0, 50122), 5104);
        for (int[] e : new int[][] {{5, 4, 0}, {7, 0, 1}, {13, 1, 0}, {97, 2, 3}}) {
            Naive plain = new Naive(e[0], e[1], e[2]);
            PointRings of = with(e);
            for (int s : plain.points) {
                CHECK.due("of " + s, of.order(0, s), plain.order(s));
            }
        }
        for (int s : Edge.noPoints()) {
            CHECK.due("of no POINT " + s, r.order(0, s), Edge.BAD);
        }
    }

    private static void manyOfAnOrder() {
        CHECK.sentence("26: How many POINTS have an ORDER.");
        for (int[] e : new int[][] {{5, 2, 0}, {5, 1, 0}, {5, 4, 0}, {7, 0, 1}, {23, 1, 1}, {97, 2, 3}}) {
            PointRings r = with(e);
            Naive plain = new Naive(e[0], e[1], e[2]);
            for (int n = 1; n <= plain.points.size() + 2; n++) {
                CHECK.due("ORDER " + n + " of " + e[0], r.ofOrder(0, n), plain.ofOrder(n));
            }
        }
        PointRings r = Edge.with(23, 1, 1);
        CHECK.due("ORDER 1: INFINITY", r.ofOrder(0, 1), 1);
        CHECK.due("2 N", r.ofOrder(0, 56), 0);
        CHECK.due("the greatest int", r.ofOrder(0, Edge.GREATEST), 0);
        CHECK.due("2^30", r.ofOrder(0, 1 << 30), 0);
        CHECK.due("N of two rings", Edge.with(5, 1, 0).ofOrder(0, 4), 0);
        CHECK.due("a prime N", Edge.with(10007, 2, 30).ofOrder(0, 10091), 10090);
    }

    private static void orderBelowOne() {
        CHECK.sentence("26: BAD: n is below 1.");
        PointRings r = Edge.with(23, 1, 1);
        for (int n : new int[] {0, -1, -28, Edge.LEAST}) {
            CHECK.due("ORDER " + n, r.ofOrder(0, n), Edge.BAD);
        }
        for (int c : Edge.noCurves(1)) {
            CHECK.due("of no curve", r.ofOrder(c, 1), Edge.BAD);
        }
    }

    private static void manyToInfinity() {
        CHECK.sentence("27: How many POINTS n TIMES is INFINITY.");
        for (int[] e : new int[][] {{5, 2, 0}, {5, 1, 0}, {5, 4, 0}, {7, 0, 1}, {23, 1, 1}, {97, 2, 3}}) {
            PointRings r = with(e);
            Naive plain = new Naive(e[0], e[1], e[2]);
            for (int n = 1; n <= 2 * plain.points.size() + 2; n++) {
                CHECK.due("n " + n + " of " + e[0], r.torsion(0, n), plain.torsion(n));
            }
            for (int n : new int[] {Edge.GREATEST, Edge.GREATEST - 1, Edge.GREATEST - 7, 1 << 30, 720720}) {
                CHECK.due("n " + n + " of " + e[0], r.torsion(0, n), plain.torsion(n));
            }
        }
        CHECK.due("1: INFINITY", Edge.with(23, 1, 1).torsion(0, 1), 1);
        CHECK.due("N", with(MOST_POINTS).torsion(0, 10208), 10208);
        CHECK.due("n2", with(MOST_POINTS).torsion(0, 5104), 10208);
    }

    private static void torsionBelowOne() {
        CHECK.sentence("27: BAD: n is below 1.");
        PointRings r = Edge.with(23, 1, 1);
        for (int n : new int[] {0, -1, -28, Edge.LEAST}) {
            CHECK.due("n " + n, r.torsion(0, n), Edge.BAD);
        }
        for (int c : Edge.noCurves(1)) {
            CHECK.due("of no curve", r.torsion(c, 1), Edge.BAD);
        }
    }

    private static void twoRings() {
        CHECK.sentence("28: 0 n1, 1 n2, 2 P, 3 Q. (n1 dividing n2)");
        made(new int[] {5, 1, 0}, 2, 2, 0, Edge.pair(2, 0));
        made(new int[] {5, 4, 0}, 2, 4, Edge.pair(2, 1), Edge.pair(1, 0));
        made(new int[] {7, 0, 1}, 2, 6, Edge.pair(1, 3), Edge.pair(5, 0));
        made(new int[] {8837, 1, 0}, 94, 94, 37017, 118936);
        made(MOST_POINTS, 2, 5104, 50122, 1638400);
    }

    private static void oneRing() {
        CHECK.sentence("28: (INFINITY if n1 is 1)");
        made(new int[] {5, 2, 0}, 1, 2, 0, Edge.INFINITY);
        made(new int[] {5, 3, 0}, 1, 10, Edge.pair(2, 2), Edge.INFINITY);
        made(new int[] {23, 1, 1}, 1, 28, 1, Edge.INFINITY);
        made(new int[] {10007, 2, 30}, 1, 10091, 16667, Edge.INFINITY);
    }

    private static void made(int[] e, int n1, int n2, int first, int second) {
        PointRings r = with(e);
        String of = e[0] + ", " + e[1] + ", " + e[2];
        CHECK.due("n1 of " + of, r.made(0, 0), n1);
        CHECK.due("n2 of " + of, r.made(0, 1), n2);
        CHECK.due("Q of " + of + ", asked first", with(e).made(0, 3), second);
        CHECK.due("P of " + of, r.made(0, 2), first);
        CHECK.due("Q of " + of, r.made(0, 3), second);
    }

    private static void theLeastMakers() {
        CHECK.sentence("28: P is the least POINT of ORDER n2, Q the least one of ORDER n1 with which this is so");
        for (int p : new int[] {5, 7, 13, 19, 31, 37}) {
            for (int a = 0; a < p; a++) {
                for (int b = 0; b < p; b += Math.max(1, p / 7)) {
                    if (Naive.isCurve(p, a, b)) {
                        int[] want = new Naive(p, a, b).made();
                        made(new int[] {p, a, b}, want[0], want[1], want[2], want[3]);
                    }
                }
            }
        }
    }

    private static void madeBad() {
        CHECK.sentence("28: BAD.");
        PointRings r = Edge.with(97, 2, 3);
        for (int what : new int[] {-1, 4, 5, Edge.LEAST, Edge.GREATEST}) {
            CHECK.due("what " + what, r.made(0, what), Edge.BAD);
        }
        for (int c : Edge.noCurves(1)) {
            for (int what = 0; what < 4; what++) {
                CHECK.due("of no curve", r.made(c, what), Edge.BAD);
            }
        }
    }

    private static void howManyHalves() {
        CHECK.sentence("29: Of how many POINTS twice is a POINT. BAD.");
        CHECK.due("INFINITY alone", Edge.with(10007, 2, 30).halves(0, Edge.INFINITY), 1);
        CHECK.due("INFINITY and one of y 0", Edge.with(5, 2, 0).halves(0, Edge.INFINITY), 2);
        CHECK.due("INFINITY and three of y 0", Edge.with(5, 1, 0).halves(0, Edge.INFINITY), 4);
        CHECK.due("none of y 0", Edge.with(5, 1, 0).halves(0, 0), 0);
        CHECK.due("four of y 0", Edge.with(5, 4, 0).halves(0, 0), 4);
        CHECK.due("two of y 0", Edge.with(23, 1, 1).halves(0, Edge.pair(4, 0)), 2);
        CHECK.due("one", Edge.with(10007, 2, 30).halves(0, 16667), 1);
        for (int[] e : new int[][] {{5, 4, 0}, {7, 0, 1}, {23, 1, 1}, {97, 2, 3}}) {
            Naive plain = new Naive(e[0], e[1], e[2]);
            for (int s : plain.points) {
                CHECK.due("of " + s + " modulo " + e[0], with(e).halves(0, s), plain.halves(s).size());
            }
        }
        for (int s : Edge.noPoints()) {
            CHECK.due("of no POINT " + s, Edge.with(23, 1, 1).halves(0, s), Edge.BAD);
        }
        for (int c : Edge.noCurves(1)) {
            CHECK.due("of no curve", Edge.with(23, 1, 1).halves(c, Edge.INFINITY), Edge.BAD);
        }
    }

    private static void halfByOrder() {
        CHECK.sentence("30: Number i of these, by order.");
        for (int[] e : new int[][] {{5, 2, 0}, {5, 4, 0}, {7, 0, 1}, {23, 1, 1}, {97, 2, 3}}) {
            Naive plain = new Naive(e[0], e[1], e[2]);
            PointRings r = with(e);
            for (int s : plain.points) {
                List<Integer> halves = plain.halves(s);
                for (int i = 0; i < halves.size(); i++) {
                    CHECK.due("half " + i + " of " + s, r.half(0, s, i), halves.get(i));
                }
            }
        }
        CHECK.due("0 of INFINITY", Edge.with(5, 1, 0).half(0, Edge.INFINITY, 0), Edge.INFINITY);
        CHECK.due("1 of INFINITY", Edge.with(5, 1, 0).half(0, Edge.INFINITY, 1), 0);
        CHECK.due("3 of INFINITY", Edge.with(5, 1, 0).half(0, Edge.INFINITY, 3), Edge.pair(3, 0));
    }

    private static void halfNone() {
        CHECK.sentence("30: BAD; NONE.");
        PointRings r = Edge.with(23, 1, 1);
        for (int i : new int[] {2, 3, 4, 5, 28, Edge.GREATEST, -1, -2, Edge.LEAST}) {
            CHECK.due("half " + i + " of two", r.half(0, Edge.pair(4, 0), i), Edge.NONE);
            CHECK.due("half " + i + " of no POINT", r.half(0, 0, i), Edge.BAD);
            CHECK.due("half " + i + " of no curve", r.half(1, Edge.INFINITY, i), Edge.BAD);
        }
        for (int i : new int[] {4, 5, Edge.GREATEST, -1, Edge.LEAST}) {
            CHECK.due("half " + i + " of four", Edge.with(5, 4, 0).half(0, 0, i), Edge.NONE);
        }
        CHECK.due("half 0 of none", Edge.with(5, 1, 0).half(0, 0, 0), Edge.NONE);
        CHECK.due("half 1 of one", Edge.with(10007, 2, 30).half(0, 16667, 1), Edge.NONE);
    }
}
