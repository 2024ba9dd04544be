/** The boundary cases of promises 11 to 19: points; sentence by sentence. */
public final class EdgesOfPointsTest {
    private static final Check CHECK = new Check("EdgesOfPointsTest");

    public static void main(String[] args) {
        thePoint();
        pointNotModuloP();
        pointNotOfTheCurve();
        liftedPoint();
        liftOfYZero();
        liftNone();
        liftBad();
        nearPoint();
        nearRoundTheEnd();
        nearAnyNumber();
        nearNone();
        nthByOrder();
        nthNone();
        rankOfAPoint();
        sumWithInfinity();
        sumWithTheNegative();
        sumOfOne();
        sumsModuloP();
        theNegative();
        manyTimes();
        zeroTimes();
        timesBelowZero();
        aloneByThePoint();
        aloneByTheTwist();
        aloneBad();
        aloneNone();
        CHECK.end();
    }

    private static void thePoint() {
        CHECK.sentence("11: The POINT x, y.");
        PointRings r = Edge.with(10007, 1, 3);
        CHECK.due("p - 1, p - 1", r.point(0, 10006, 10006), 163948310);
        CHECK.due("p - 1, 1", r.point(0, 10006, 1), 163938305);
        CHECK.due("0, 1477", r.point(0, 0, 1477), 1477);
        CHECK.due("0, 0", Edge.with(5, 1, 0).point(0, 0, 0), 0);
    }

    private static void pointNotModuloP() {
        CHECK.sentence("11: BAD: x, y not modulo p.");
        PointRings r = Edge.with(23, 1, 1);
        for (int v : new int[] {-1, -23, -22, 23, 24, 46, 16384, Edge.LEAST, Edge.GREATEST}) {
            for (int as = 0; as < 23; as++) {
                CHECK.due("x " + v, r.point(0, v, as), Edge.BAD);
                CHECK.due("y " + v, r.point(0, as, v), Edge.BAD);
            }
            CHECK.due("both " + v, r.point(0, v, v), Edge.BAD);
        }
        for (int c : Edge.noCurves(1)) {
            CHECK.due("of no curve", r.point(c, 0, 1), Edge.BAD);
            CHECK.due("of no curve, and not there", r.point(c, 0, 0), Edge.BAD);
        }
    }

    private static void pointNotOfTheCurve() {
        CHECK.sentence("11: NONE: it is not of the curve.");
        PointRings r = Edge.with(23, 1, 1);
        Naive e = new Naive(23, 1, 1);
        for (int x = 0; x < 23; x++) {
            for (int y = 0; y < 23; y++) {
                int s = Edge.pair(x, y);
                CHECK.due("point(0, " + x + ", " + y + ")", r.point(0, x, y), e.points.contains(s) ? s : Edge.NONE);
            }
        }
        CHECK.due("next to one", Edge.with(10007, 1, 3).point(0, 10006, 10005), Edge.NONE);
    }

    private static void liftedPoint() {
        CHECK.sentence("12: The POINT with x and a y that is odd, or not");
        PointRings r = Edge.with(23, 1, 1);
        CHECK.due("0, odd", r.lift(0, 0, true), Edge.pair(0, 1));
        CHECK.due("0, not", r.lift(0, 0, false), Edge.pair(0, 22));
        CHECK.due("3, odd: the greater y", r.lift(0, 3, true), Edge.pair(3, 13));
        CHECK.due("3, not: the lesser y", r.lift(0, 3, false), Edge.pair(3, 10));
        PointRings most = Edge.with(10007, 1, 3);
        CHECK.due("p - 1, odd", most.lift(0, 10006, true), Edge.pair(10006, 1));
        CHECK.due("p - 1, not", most.lift(0, 10006, false), Edge.pair(10006, 10006));
    }

    private static void liftOfYZero() {
        CHECK.sentence("12: (y 0 is not)");
        CHECK.due("4, 0 not odd", Edge.with(23, 1, 1).lift(0, 4, false), Edge.pair(4, 0));
        CHECK.due("4, 0 odd", Edge.with(23, 1, 1).lift(0, 4, true), Edge.NONE);
        CHECK.due("0, 0 not odd", Edge.with(5, 1, 0).lift(0, 0, false), 0);
        CHECK.due("0, 0 odd", Edge.with(5, 1, 0).lift(0, 0, true), Edge.NONE);
    }

    private static void liftNone() {
        CHECK.sentence("12: NONE.");
        PointRings r = Edge.with(23, 1, 1);
        for (int x : new int[] {2, 8, 10, 14, 15, 16, 20, 21, 22}) {
            CHECK.due(x + ", odd", r.lift(0, x, true), Edge.NONE);
            CHECK.due(x + ", not", r.lift(0, x, false), Edge.NONE);
        }
    }

    private static void liftBad() {
        CHECK.sentence("12: BAD");
        PointRings r = Edge.with(23, 1, 1);
        for (int x : new int[] {-1, -23, 23, 24, Edge.LEAST, Edge.GREATEST}) {
            CHECK.due(x + ", odd", r.lift(0, x, true), Edge.BAD);
            CHECK.due(x + ", not", r.lift(0, x, false), Edge.BAD);
        }
        for (int c : Edge.noCurves(1)) {
            CHECK.due("of no curve", r.lift(c, 0, true), Edge.BAD);
            CHECK.due("of no curve, and not there", r.lift(c, 2, true), Edge.BAD);
        }
    }

    private static void nearPoint() {
        CHECK.sentence("13: The POINT with the least x of h, h + 1, .. and the lesser y.");
        PointRings r = Edge.with(23, 1, 1);
        CHECK.due("x h itself", r.near(0, 0), Edge.pair(0, 1));
        CHECK.due("x h itself, of two y", r.near(0, 3), Edge.pair(3, 10));
        CHECK.due("x h + 1", r.near(0, 2), Edge.pair(3, 10));
        CHECK.due("y 0", r.near(0, 4), Edge.pair(4, 0));
        CHECK.due("x h + 3", r.near(0, 14), Edge.pair(17, 3));
        CHECK.due("the last x", r.near(0, 19), Edge.pair(19, 5));
        CHECK.due("p - 1", Edge.with(10007, 1, 3).near(0, 10006), Edge.pair(10006, 1));
    }

    private static void nearRoundTheEnd() {
        CHECK.sentence("13: (modulo p");
        PointRings r = Edge.with(23, 1, 1);
        CHECK.due("from 20", r.near(0, 20), Edge.pair(0, 1));
        CHECK.due("from 22", r.near(0, 22), Edge.pair(0, 1));
        // of y^2 = x^3 + 2 x modulo 5 there is (0, 0) alone
        for (int h = -12; h < 12; h++) {
            CHECK.due("from " + h + " to the only one", Edge.with(5, 2, 0).near(0, h), 0);
        }
        // and of y^2 = x^3 + 4 x + 3 x 2 alone
        for (int h = -12; h < 12; h++) {
            CHECK.due("from " + h + " to the only x", Edge.with(5, 4, 3).near(0, h), Edge.pair(2, 2));
        }
    }

    private static void nearAnyNumber() {
        CHECK.sentence("13: h any number)");
        for (int[] e : new int[][] {{5, 4, 2}, {5, 4, 3}, {7, 0, 1}, {23, 1, 1}, {97, 2, 3}, {10007, 1, 3}}) {
            PointRings r = Edge.with(e[0], e[1], e[2]);
            Naive plain = new Naive(e[0], e[1], e[2]);
            for (int i = 0; i < 10; i++) {
                for (int h : new int[] {Edge.GREATEST - i, Edge.LEAST + i, -1 - i, -e[0] - i, -e[0] + i, e[0] - i,
                    e[0] + i}) {
                    CHECK.due("near(0, " + h + ") modulo " + e[0], r.near(0, h), plain.near(h));
                }
            }
        }
    }

    /** N is at least p + 1 less 2 roots of p, so above 1: the document's NONE does not come to pass. */
    private static void nearNone() {
        CHECK.sentence("13: BAD; NONE: there is no POINT but INFINITY.");
        for (int p : new int[] {5, 7, 11, 13}) {
            for (int a = 0; a < p; a++) {
                for (int b = 0; b < p; b++) {
                    if (Naive.isCurve(p, a, b)) {
                        int due = new Naive(p, a, b).points.get(1);
                        CHECK.due("of " + p + ", " + a + ", " + b, Edge.with(p, a, b).near(0, 0), due);
                    }
                }
            }
        }
        for (int c : Edge.noCurves(1)) {
            CHECK.due("of no curve", Edge.with(5, 1, 1).near(c, 0), Edge.BAD);
        }
    }

    private static void nthByOrder() {
        CHECK.sentence("14: POINT k by order (0 INFINITY).");
        PointRings r = Edge.with(5, 2, 0);
        CHECK.due("0", r.nth(0, 0), Edge.INFINITY);
        CHECK.due("1, the last of two", r.nth(0, 1), 0);
        PointRings most = Edge.with(10007, 1, 3);
        CHECK.due("0", most.nth(0, 0), Edge.INFINITY);
        CHECK.due("1", most.nth(0, 1), 1477);
        CHECK.due("2, the greater y", most.nth(0, 2), 8530);
        CHECK.due("the last but one", most.nth(0, 10090), Edge.pair(10006, 1));
        CHECK.due("the last", most.nth(0, 10091), Edge.pair(10006, 10006));
    }

    private static void nthNone() {
        CHECK.sentence("14: BAD; NONE.");
        PointRings r = Edge.with(23, 1, 1);
        CHECK.due("N - 1", r.nth(0, 27), Edge.pair(19, 18));
        for (int k : new int[] {28, 29, 56, 16384, Edge.GREATEST, -1, -2, -27, -28, -29, Edge.LEAST}) {
            CHECK.due("nth(0, " + k + ")", r.nth(0, k), Edge.NONE);
            CHECK.due("nth(1, " + k + ")", r.nth(1, k), Edge.BAD);
        }
        CHECK.due("N where the last x has one y", Edge.with(5, 2, 0).nth(0, 2), Edge.NONE);
        for (int c : Edge.noCurves(1)) {
            CHECK.due("0 of no curve", r.nth(c, 0), Edge.BAD);
        }
    }

    private static void rankOfAPoint() {
        CHECK.sentence("15: How many POINTS are ahead of one by order. BAD.");
        PointRings r = Edge.with(10007, 1, 3);
        CHECK.due("INFINITY", r.rank(0, Edge.INFINITY), 0);
        CHECK.due("the first pair", r.rank(0, 1477), 1);
        CHECK.due("its NEGATIVE", r.rank(0, 8530), 2);
        CHECK.due("the last", r.rank(0, 163948310), 10091);
        CHECK.due("y 0", Edge.with(23, 1, 1).rank(0, Edge.pair(4, 0)), 7);
        CHECK.due("behind y 0", Edge.with(23, 1, 1).rank(0, Edge.pair(5, 4)), 8);
        for (int s : Edge.noPoints()) {
            CHECK.due("of no POINT " + s, Edge.with(23, 1, 1).rank(0, s), Edge.BAD);
        }
    }

    private static void sumWithInfinity() {
        CHECK.sentence("16: The SUM of two POINTS: INFINITY and P: P.");
        PointRings r = Edge.with(23, 1, 1);
        for (int s : new Naive(23, 1, 1).points) {
            CHECK.due("INFINITY and " + s, r.add(0, Edge.INFINITY, s), s);
            CHECK.due(s + " and INFINITY", r.add(0, s, Edge.INFINITY), s);
        }
    }

    private static void sumWithTheNegative() {
        CHECK.sentence("16: (x, y) and (x, -y): INFINITY.");
        for (int[] e : new int[][] {{23, 1, 1}, {5, 1, 0}, {5, 2, 0}}) {
            PointRings r = Edge.with(e[0], e[1], e[2]);
            Naive plain = new Naive(e[0], e[1], e[2]);
            for (int s : plain.points) {
                CHECK.due(s + " and its NEGATIVE", r.add(0, s, plain.negative(s)), Edge.INFINITY);
            }
        }
        CHECK.due("y 0 twice", Edge.with(23, 1, 1).add(0, Edge.pair(4, 0), Edge.pair(4, 0)), Edge.INFINITY);
        CHECK.due("the greatest", Edge.with(10007, 1, 3).add(0, 163948310, 163938305), Edge.INFINITY);
        CHECK.due("two of y 0", Edge.with(5, 1, 0).add(0, Edge.pair(2, 0), Edge.pair(3, 0)), 0);
    }

    private static void sumOfOne() {
        CHECK.sentence("16: or, if they are one, (3 x^2 + a) / (2 y)");
        PointRings r = Edge.with(23, 1, 1);
        CHECK.due("0, 1 twice", r.add(0, 1, 1), Edge.pair(6, 19));
        CHECK.due("0, 22 twice", r.add(0, 22, 22), Edge.pair(6, 4));
        CHECK.due("3 x^2 + a is 0", Edge.with(5, 0, 1).add(0, 1, 1), 4);
        CHECK.due("the greatest, twice", Edge.with(10007, 1, 3).add(0, 163948310, 163948310),
            new Naive(10007, 1, 3).add(163948310, 163948310));
    }

    private static void sumsModuloP() {
        CHECK.sentence("16: Else with s = (y2 - y1) / (x2 - x1)");
        for (int[] e : new int[][] {{5, 3, 0}, {5, 4, 0}, {7, 0, 1}, {23, 1, 1}}) {
            PointRings r = Edge.with(e[0], e[1], e[2]);
            Naive plain = new Naive(e[0], e[1], e[2]);
            for (int s : plain.points) {
                for (int t : plain.points) {
                    CHECK.due(s + " and " + t + " modulo " + e[0], r.add(0, s, t), plain.add(s, t));
                }
            }
        }
        PointRings r = Edge.with(10007, 1, 3);
        Naive plain = new Naive(10007, 1, 3);
        int last = plain.points.size() - 1;
        for (int i = 0; i < 40; i++) {
            for (int j = 0; j < 40; j++) {
                int s = plain.points.get(last - i);
                int t = plain.points.get(j % 2 == 0 ? j : last - j);
                CHECK.due(s + " and " + t, r.add(0, s, t), plain.add(s, t));
                CHECK.due(t + " and " + s, r.add(0, t, s), plain.add(t, s));
            }
        }
    }

    private static void theNegative() {
        CHECK.sentence("17: The NEGATIVE of a POINT. BAD.");
        PointRings r = Edge.with(23, 1, 1);
        CHECK.due("of INFINITY", r.negative(0, Edge.INFINITY), Edge.INFINITY);
        CHECK.due("of y 0", r.negative(0, Edge.pair(4, 0)), Edge.pair(4, 0));
        CHECK.due("of y 1", r.negative(0, Edge.pair(0, 1)), Edge.pair(0, 22));
        CHECK.due("of y p - 1", r.negative(0, Edge.pair(0, 22)), Edge.pair(0, 1));
        CHECK.due("of 0, 0", Edge.with(5, 1, 0).negative(0, 0), 0);
        CHECK.due("of the greatest", Edge.with(10007, 1, 3).negative(0, 163948310), 163938305);
        for (int s : Edge.noPoints()) {
            CHECK.due("of no POINT " + s, r.negative(0, s), Edge.BAD);
        }
    }

    private static void manyTimes() {
        CHECK.sentence("18: k TIMES a POINT. BAD.");
        PointRings r = Edge.with(23, 1, 1);
        Naive e = new Naive(23, 1, 1);
        for (int s : e.points) {
            for (long k : new long[] {1, 2, 3, 27, 28, 29, 1L << 31, 1L << 32, 1L << 62, Long.MAX_VALUE}) {
                CHECK.due(k + " times " + s, r.times(0, s, k), e.times(s, k));
            }
            CHECK.due("ORDER times " + s, r.times(0, s, e.order(s)), Edge.INFINITY);
            CHECK.due("ORDER + 1 times " + s, r.times(0, s, e.order(s) + 1), s);
        }
        CHECK.due("an even number of times y 0", r.times(0, Edge.pair(4, 0), 1L << 40), Edge.INFINITY);
        CHECK.due("an odd number of times y 0", r.times(0, Edge.pair(4, 0), Long.MAX_VALUE), Edge.pair(4, 0));
        for (int s : Edge.noPoints()) {
            CHECK.due("of no POINT " + s, r.times(0, s, 3), Edge.BAD);
        }
    }

    private static void zeroTimes() {
        CHECK.sentence("18: 0: INFINITY");
        PointRings r = Edge.with(23, 1, 1);
        for (int s : new Naive(23, 1, 1).points) {
            CHECK.due("0 times " + s, r.times(0, s, 0), Edge.INFINITY);
        }
        for (long k : new long[] {0, 1, -1, Long.MAX_VALUE, Long.MIN_VALUE}) {
            CHECK.due(k + " times INFINITY", r.times(0, Edge.INFINITY, k), Edge.INFINITY);
        }
        CHECK.due("0 times no POINT", r.times(0, 0, 0), Edge.BAD);
    }

    private static void timesBelowZero() {
        CHECK.sentence("18: k below 0: of -k of its NEGATIVE");
        PointRings r = Edge.with(23, 1, 1);
        Naive e = new Naive(23, 1, 1);
        for (int s : e.points) {
            CHECK.due("-1 times " + s, r.times(0, s, -1), e.negative(s));
            for (long k : new long[] {-2, -3, -27, -28, -29, Integer.MIN_VALUE, Long.MIN_VALUE + 1, Long.MIN_VALUE}) {
                CHECK.due(k + " times " + s, r.times(0, s, k), e.times(s, k));
            }
        }
        CHECK.due("-1 times no POINT", r.times(0, 0, -1), Edge.BAD);
    }

    private static void aloneByThePoint() {
        CHECK.sentence("19: x ALONE: the x of k TIMES (x, y), if such a POINT is there");
        PointRings r = Edge.with(23, 1, 1);
        CHECK.due("1 of 0", r.alone(0, 0, 1), 0);
        CHECK.due("-1 of 0", r.alone(0, 0, -1), 0);
        CHECK.due("2 of 0", r.alone(0, 0, 2), 6);
        CHECK.due("-2 of 0", r.alone(0, 0, -2), 6);
        CHECK.due("27 of 0", r.alone(0, 0, 27), 0);
        CHECK.due("3 of y 0", r.alone(0, 4, 3), 4);
        CHECK.due("the least k of y 0, plus 1", r.alone(0, 4, Long.MIN_VALUE + 1), 4);
        CHECK.due("1 of p - 1", Edge.with(10007, 1, 3).alone(0, 10006, 1), 10006);
    }

    private static void aloneByTheTwist() {
        CHECK.sentence("19: else, with d as above, x' / d .. (there is always one of the two)");
        for (int[] e : new int[][] {{5, 2, 0}, {7, 0, 1}, {23, 1, 1}, {41, 1, 1}, {97, 2, 3}}) {
            PointRings r = Edge.with(e[0], e[1], e[2]);
            Naive plain = new Naive(e[0], e[1], e[2]);
            Naive twist = plain.twist();
            for (int x = 0; x < e[0]; x++) {
                for (long k : new long[] {1, -1, 2, -2, 3, 7, Long.MAX_VALUE, Long.MIN_VALUE}) {
                    CHECK.due(k + " of " + x + " modulo " + e[0], r.alone(0, x, k), plain.alone(x, k, twist));
                }
            }
        }
        PointRings r = Edge.with(23, 1, 1);
        CHECK.due("1 of p - 1", r.alone(0, 22, 1), 22);
        CHECK.due("no curve was made", r.curves(), 1);
    }

    private static void aloneBad() {
        CHECK.sentence("19: BAD");
        PointRings r = Edge.with(23, 1, 1);
        for (int x : new int[] {-1, -23, 23, 24, 46, Edge.LEAST, Edge.GREATEST}) {
            CHECK.due("1 of " + x, r.alone(0, x, 1), Edge.BAD);
            CHECK.due("0 of " + x, r.alone(0, x, 0), Edge.BAD);
        }
        for (int c : Edge.noCurves(1)) {
            CHECK.due("of no curve", r.alone(c, 0, 1), Edge.BAD);
            CHECK.due("0 of no curve", r.alone(c, 0, 0), Edge.BAD);
        }
    }

    private static void aloneNone() {
        CHECK.sentence("19: NONE: INFINITY.");
        PointRings r = Edge.with(23, 1, 1);
        for (int x = 0; x < 23; x++) {
            CHECK.due("0 of " + x, r.alone(0, x, 0), Edge.NONE);
            // N 28, that of the TWIST 20
            CHECK.due("140 of " + x, r.alone(0, x, 140), Edge.NONE);
            CHECK.due("-140 of " + x, r.alone(0, x, -140), Edge.NONE);
        }
        CHECK.due("2 of y 0", r.alone(0, 4, 2), Edge.NONE);
        CHECK.due("the least k of y 0", r.alone(0, 4, Long.MIN_VALUE), Edge.NONE);
        CHECK.due("28 of 0", r.alone(0, 0, 28), Edge.NONE);
        CHECK.holds("28 of 2, by the TWIST", r.alone(0, 2, 28) != Edge.NONE);
    }
}
