import java.math.BigInteger;

/** The boundary cases of promises 7 to 10: numbers modulo the p of a curve; sentence by sentence. */
public final class EdgesOfNumbersTest {
    private static final Check CHECK = new Check("EdgesOfNumbersTest");

    public static void main(String[] args) {
        theLeastRoot();
        noRoot();
        rootOfAnyNumber();
        rootBad();
        oneOver();
        noInverse();
        inverseBad();
        powers();
        zeroToTheZero();
        powersBelowZero();
        theLeastGenerator();
        generatorBad();
        CHECK.end();
    }

    private static void theLeastRoot() {
        CHECK.sentence("7: v modulo p has a least square root: that");
        for (int p : new int[] {5, 23, 10007}) {
            PointRings r = Edge.with(p, 0, 1);
            CHECK.due("of 0", r.root(0, 0), 0);
            CHECK.due("of 1", r.root(0, 1), 1);
            for (int y = 0; y <= p / 2; y += Math.max(1, p / 300)) {
                CHECK.due("of " + y + "^2 modulo " + p, r.root(0, y * y % p), y);
            }
            CHECK.due("the greatest of the least ones", r.root(0, (p / 2) * (p / 2) % p), p / 2);
        }
    }

    private static void noRoot() {
        CHECK.sentence("7: NONE.");
        PointRings r = Edge.with(23, 1, 1);
        for (int v : new int[] {5, 7, 10, 11, 14, 15, 17, 19, 20, 21, 22}) {
            CHECK.due("of " + v, r.root(0, v), Edge.NONE);
        }
        CHECK.due("of -1 modulo 10007", Edge.with(10007, 1, 1).root(0, 10006), Edge.NONE);
        CHECK.due("of -1 modulo 5", Edge.with(5, 1, 1).root(0, 4), 2);
    }

    private static void rootOfAnyNumber() {
        CHECK.sentence("7: (v may be any number.)");
        for (int p : new int[] {5, 23, 10007}) {
            PointRings r = Edge.with(p, 0, 1);
            Naive e = new Naive(p, 0, 1);
            for (int v : new int[] {-1, -2, -4, -p, -p + 4, p, p + 4, 2 * p + 1, Edge.GREATEST, Edge.GREATEST - 1,
                Edge.GREATEST - 2, Edge.LEAST, Edge.LEAST + 1, Edge.LEAST + 2}) {
                CHECK.due("of " + v + " modulo " + p, r.root(0, v), e.root(v));
            }
            CHECK.due("of -p", r.root(0, -p), 0);
            CHECK.due("of 4 - p", r.root(0, 4 - p), 2);
        }
    }

    private static void rootBad() {
        CHECK.sentence("7: BAD.");
        PointRings r = Edge.with(23, 1, 1);
        for (int c : Edge.noCurves(1)) {
            CHECK.due("of a square", r.root(c, 4), Edge.BAD);
            CHECK.due("of none", r.root(c, 5), Edge.BAD);
        }
    }

    private static void oneOver() {
        CHECK.sentence("8: 1 over v modulo p.");
        for (int p : new int[] {5, 7, 10007}) {
            PointRings r = Edge.with(p, 0, 1);
            for (int v = 1; v < p; v++) {
                int over = r.inverse(0, v);
                CHECK.holds("1 over " + v + " modulo " + p + " is " + over, over > 0 && over < p && v * over % p == 1);
            }
            CHECK.due("1 over 1 - p", r.inverse(0, 1 - p), 1);
            CHECK.due("1 over p + 1", r.inverse(0, p + 1), 1);
            CHECK.due("1 over -1", r.inverse(0, -1), p - 1);
            for (int v : new int[] {Edge.GREATEST, Edge.LEAST, Edge.LEAST + 1}) {
                CHECK.due("1 over " + v, r.inverse(0, v), r.inverse(0, Math.floorMod(v, p)));
            }
        }
    }

    private static void noInverse() {
        CHECK.sentence("8: NONE: v is 0 modulo p.");
        for (int p : new int[] {5, 23, 10007}) {
            PointRings r = Edge.with(p, 0, 1);
            for (int v : new int[] {0, p, -p, 2 * p, -2 * p, Edge.GREATEST / p * p, Edge.LEAST / p * p}) {
                CHECK.due("1 over " + v + " modulo " + p, r.inverse(0, v), Edge.NONE);
            }
        }
    }

    private static void inverseBad() {
        CHECK.sentence("8: BAD");
        PointRings r = Edge.with(23, 1, 1);
        for (int c : Edge.noCurves(1)) {
            CHECK.due("1 over 1", r.inverse(c, 1), Edge.BAD);
            CHECK.due("1 over 0", r.inverse(c, 0), Edge.BAD);
        }
    }

    private static void powers() {
        CHECK.sentence("9: v to the e modulo p");
        for (int p : new int[] {5, 23, 10007}) {
            PointRings r = Edge.with(p, 0, 1);
            CHECK.due("to the p - 1", r.power(0, p - 1, p - 1), 1);
            CHECK.due("to the p", r.power(0, p - 2, p), p - 2);
            CHECK.due("-1 to the 1", r.power(0, -1, 1), p - 1);
            CHECK.due("p + 2 to the 1", r.power(0, p + 2, 1), 2);
            CHECK.due("p to the 1", r.power(0, p, 1), 0);
            for (int v : new int[] {2, 3, p - 1, -1, Edge.LEAST, Edge.GREATEST}) {
                for (long e : new long[] {1, 2, 1L << 32, 1L << 62, Long.MAX_VALUE, Long.MAX_VALUE - 1}) {
                    CHECK.due(v + " to the " + e, r.power(0, v, e), raised(v, e, p));
                }
            }
        }
    }

    private static int raised(int v, long e, int p) {
        return BigInteger.valueOf(v).modPow(BigInteger.valueOf(e), BigInteger.valueOf(p)).intValue();
    }

    private static void zeroToTheZero() {
        CHECK.sentence("9: (0 to the 0 is 1)");
        PointRings r = Edge.with(23, 1, 1);
        for (int v : new int[] {0, 23, -23, 46, 1, -1, 5, Edge.LEAST, Edge.GREATEST}) {
            CHECK.due(v + " to the 0", r.power(0, v, 0), 1);
        }
        for (long e : new long[] {1, 2, 22, 23, Long.MAX_VALUE}) {
            CHECK.due("0 to the " + e, r.power(0, 0, e), 0);
        }
    }

    private static void powersBelowZero() {
        CHECK.sentence("9: BAD: also e is below 0.");
        PointRings r = Edge.with(23, 1, 1);
        for (long e : new long[] {-1, -2, -22, Integer.MIN_VALUE, Long.MIN_VALUE, Long.MIN_VALUE + 1}) {
            CHECK.due("0 to the " + e, r.power(0, 0, e), Edge.BAD);
            CHECK.due("1 to the " + e, r.power(0, 1, e), Edge.BAD);
            CHECK.due("2 to the " + e, r.power(0, 2, e), Edge.BAD);
        }
        for (int c : Edge.noCurves(1)) {
            CHECK.due("of no curve", r.power(c, 2, 0), Edge.BAD);
        }
    }

    private static void theLeastGenerator() {
        CHECK.sentence("10: The least number of which the powers are all but 0 modulo p.");
        int[][] least = {{5, 2}, {7, 3}, {11, 2}, {23, 5}, {41, 6}, {71, 7}, {191, 19}, {409, 21}, {5881, 31},
            {10007, 5}};
        for (int[] of : least) {
            CHECK.due("of " + of[0], Edge.with(of[0], 0, 1).generator(0), of[1]);
        }
    }

    private static void generatorBad() {
        CHECK.sentence("10: BAD.");
        for (int c : Edge.noCurves(1)) {
            CHECK.due("of curve " + c, Edge.with(5, 1, 1).generator(c), Edge.BAD);
        }
    }
}
