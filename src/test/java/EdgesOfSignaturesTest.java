/** The boundary cases of promises 36 and 37: signatures; sentence by sentence. */
public final class EdgesOfSignaturesTest {
    private static final Check CHECK = new Check("EdgesOfSignaturesTest");
    /** (1, 2) of y^2 = x^3 + 3 modulo 7 is of ORDER 13, above p. */
    private static final int OF_ORDER_13 = 16386;
    /** (3, 6) of y^2 = x^3 + 2 x + 3 modulo 97. */
    private static final int OF_ORDER_5 = 49158;

    public static void main(String[] args) {
        signedNumbers();
        theLeastPrimeOrder();
        theGreatestOrder();
        signBad();
        orderIsNoPrime();
        numbersNotAsTold();
        rIsZero();
        sIsZero();
        goodOrNot();
        goodOfAnyPoint();
        rAndSFrom1();
        itComesToInfinity();
        goodBad();
        goodOrderIsNoPrime();
        hBelowZero();
        CHECK.end();
    }

    private static void signedNumbers() {
        CHECK.sentence("36: r (what 0), s (1). (d, k 1 to n - 1 each, h 0 or more)");
        PointRings r = Edge.with(7, 0, 3);
        Naive e = new Naive(7, 0, 3);
        for (int d = 1; d < 13; d++) {
            for (int k = 1; k < 13; k++) {
                for (int h : new int[] {0, 1, 12, 13, 14, 26, Edge.GREATEST, Edge.GREATEST - 1}) {
                    String told = "d " + d + ", k " + k + ", h " + h;
                    CHECK.due("r: " + told, r.sign(0, OF_ORDER_13, d, k, h, 0), e.sign(OF_ORDER_13, d, k, h, 0));
                    CHECK.due("s: " + told, r.sign(0, OF_ORDER_13, d, k, h, 1), e.sign(OF_ORDER_13, d, k, h, 1));
                }
            }
        }
        CHECK.due("h 0, r", r.sign(0, OF_ORDER_13, 1, 1, 0, 0), 1);
        CHECK.due("h 0, s", r.sign(0, OF_ORDER_13, 1, 1, 0, 1), 1);
        CHECK.due("the greatest h, r", r.sign(0, OF_ORDER_13, 3, 4, Edge.GREATEST, 0), 4);
        CHECK.due("the greatest h, s", r.sign(0, OF_ORDER_13, 3, 4, Edge.GREATEST, 1), 12);
    }

    private static void theLeastPrimeOrder() {
        CHECK.sentence("36: G of prime ORDER n: n 2");
        PointRings r = Edge.with(23, 0, 2);
        int g = Edge.pair(7, 0);
        CHECK.due("the ORDER", r.order(0, g), 2);
        CHECK.due("r: 7 mod 2", r.sign(0, g, 1, 1, 0, 0), 1);
        CHECK.due("s", r.sign(0, g, 1, 1, 0, 1), 1);
        CHECK.due("s is 0", r.sign(0, g, 1, 1, 1, 0), Edge.NO);
        CHECK.due("d 2", r.sign(0, g, 2, 1, 0, 0), Edge.BAD);
        CHECK.due("k 2", r.sign(0, g, 1, 2, 0, 0), Edge.BAD);
        CHECK.due("good", r.good(0, g, g, 0, 1, 1), 1);
        CHECK.due("r 2 is not", r.good(0, g, g, 0, 2, 1), 0);
        CHECK.due("s 2 is not", r.good(0, g, g, 0, 1, 2), 0);
    }

    private static void theGreatestOrder() {
        CHECK.sentence("36: G of prime ORDER n: n above p");
        PointRings r = Edge.with(10007, 2, 30);
        Naive e = new Naive(10007, 2, 30);
        int g = 16667;
        int n = 10091;
        for (int d : new int[] {1, 2, 5000, n - 2, n - 1}) {
            int q = e.times(g, d);
            for (int k : new int[] {1, 2, 5001, 10007, n - 2, n - 1}) {
                for (int h : new int[] {0, 1, n - 1, n, Edge.GREATEST}) {
                    int first = e.sign(g, d, k, h, 0);
                    int second = e.sign(g, d, k, h, 1);
                    String told = "d " + d + ", k " + k + ", h " + h;
                    CHECK.due("r: " + told, r.sign(0, g, d, k, h, 0), first);
                    CHECK.due("s: " + told, r.sign(0, g, d, k, h, 1), second);
                    CHECK.due("good: " + told, r.good(0, g, q, h, first, second), first > 0 ? 1 : 0);
                }
            }
        }
        CHECK.due("d n", r.sign(0, g, n, 1, 0, 0), Edge.BAD);
        CHECK.due("k n", r.sign(0, g, 1, n, 0, 0), Edge.BAD);
    }

    private static void signBad() {
        CHECK.sentence("36: BAD");
        PointRings r = Edge.with(7, 0, 3);
        for (int c : Edge.noCurves(1)) {
            CHECK.due("of no curve", r.sign(c, OF_ORDER_13, 1, 1, 0, 0), Edge.BAD);
        }
        for (int s : Edge.noPoints()) {
            CHECK.due("G is no POINT " + s, Edge.with(23, 1, 1).sign(0, s, 1, 1, 0, 0), Edge.BAD);
        }
    }

    private static void orderIsNoPrime() {
        CHECK.sentence("36: BAD: also G's ORDER is no prime");
        PointRings r = Edge.with(23, 1, 1);
        Naive e = new Naive(23, 1, 1);
        CHECK.due("ORDER 1", r.sign(0, Edge.INFINITY, 1, 1, 0, 0), Edge.BAD);
        CHECK.due("ORDER 1, d and k 0", r.sign(0, Edge.INFINITY, 0, 0, 0, 0), Edge.BAD);
        CHECK.due("ORDER 4", r.sign(0, 180227, 1, 1, 0, 0), Edge.BAD);
        CHECK.due("ORDER 14", r.sign(0, e.times(1, 2), 1, 1, 0, 0), Edge.BAD);
        CHECK.due("ORDER 28", r.sign(0, 1, 1, 1, 0, 0), Edge.BAD);
        CHECK.due("ORDER 9", Edge.with(5, 1, 1).sign(0, 1, 1, 1, 0, 0), Edge.BAD);
        for (int s : e.points) {
            boolean bad = r.sign(0, s, 1, 1, 3, 0) == Edge.BAD;
            CHECK.due("ORDER " + e.order(s), bad ? 0 : 1, Naive.isPrime(e.order(s)) ? 1 : 0);
        }
    }

    private static void numbersNotAsTold() {
        CHECK.sentence("36: BAD: a number is not as told.");
        PointRings r = Edge.with(7, 0, 3);
        for (int v : new int[] {0, 13, 14, 26, -1, -12, Edge.LEAST, Edge.GREATEST}) {
            CHECK.due("d " + v, r.sign(0, OF_ORDER_13, v, 1, 1, 0), Edge.BAD);
            CHECK.due("k " + v, r.sign(0, OF_ORDER_13, 1, v, 1, 0), Edge.BAD);
            CHECK.due("d and k " + v, r.sign(0, OF_ORDER_13, v, v, 1, 1), Edge.BAD);
        }
        for (int h : new int[] {-1, -13, Edge.LEAST}) {
            CHECK.due("h " + h, r.sign(0, OF_ORDER_13, 1, 1, h, 0), Edge.BAD);
            CHECK.due("h " + h, r.sign(0, OF_ORDER_13, 1, 1, h, 1), Edge.BAD);
        }
        for (int what : new int[] {-1, 2, 3, Edge.LEAST, Edge.GREATEST}) {
            CHECK.due("what " + what, r.sign(0, OF_ORDER_13, 1, 1, 0, what), Edge.BAD);
            CHECK.due("what " + what + ", where s is 0", r.sign(0, OF_ORDER_13, 12, 12, 1, what), Edge.BAD);
        }
        CHECK.holds("d 12 and k 12 are", r.sign(0, OF_ORDER_13, 12, 12, 2, 0) > 0);
    }

    private static void rIsZero() {
        CHECK.sentence("36: NO, if r .. is 0");
        for (int what = 0; what < 2; what++) {
            CHECK.due("x is 0", Edge.with(5, 0, 1).sign(0, 1, 1, 1, 1, what), Edge.NO);
            CHECK.due("x is 0, h 0", Edge.with(5, 0, 1).sign(0, 1, 1, 2, 0, what), Edge.NO);
            PointRings r = Edge.with(23, 1, 5);
            int g = Edge.pair(11, 6);
            CHECK.due("the ORDER", r.order(0, g), 11);
            CHECK.due("x is n", r.sign(0, g, 1, 1, 1, what), Edge.NO);
            CHECK.due("x is n, k -1", r.sign(0, g, 1, 10, 1, what), Edge.NO);
            CHECK.due("x is 4 n", Edge.with(23, 1, 15).sign(0, Edge.pair(20, 10), 1, 1, 1, what), Edge.NO);
            CHECK.due("x is 22, n 2", Edge.with(23, 0, 1).sign(0, Edge.pair(22, 0), 1, 1, 1, what), Edge.NO);
        }
    }

    private static void sIsZero() {
        CHECK.sentence("36: NO, if .. s is 0");
        PointRings r = Edge.with(7, 0, 3);
        for (int what = 0; what < 2; what++) {
            // r is 1: h + d is 0 modulo 13
            CHECK.due("h 12, d 1", r.sign(0, OF_ORDER_13, 1, 1, 12, what), Edge.NO);
            CHECK.due("h 1, d 12", r.sign(0, OF_ORDER_13, 12, 12, 1, what), Edge.NO);
            CHECK.due("h 25, d 1", r.sign(0, OF_ORDER_13, 1, 1, 25, what), Edge.NO);
            CHECK.holds("h 11, d 1", r.sign(0, OF_ORDER_13, 1, 1, 11, what) > 0);
            CHECK.holds("h 13, d 1", r.sign(0, OF_ORDER_13, 1, 1, 13, what) > 0);
        }
    }

    private static void goodOrNot() {
        CHECK.sentence("37: Whether r, s are good for Q (1, 0).");
        PointRings r = Edge.with(7, 0, 3);
        Naive e = new Naive(7, 0, 3);
        for (int h : new int[] {0, 1, 13, Edge.GREATEST}) {
            for (int q : e.points) {
                for (int first = -1; first < 15; first++) {
                    for (int second = -1; second < 15; second++) {
                        CHECK.due("Q " + q + ", h " + h + ", r " + first + ", s " + second,
                            r.good(0, OF_ORDER_13, q, h, first, second), e.good(OF_ORDER_13, q, h, first, second));
                    }
                }
            }
        }
        CHECK.due("good", r.good(0, OF_ORDER_13, 49155, 3, 5, 4), 1);
        CHECK.due("of another h", r.good(0, OF_ORDER_13, 49155, 4, 5, 4), 0);
        CHECK.due("of another Q", r.good(0, OF_ORDER_13, 16386, 3, 5, 4), 0);
        CHECK.due("the same h modulo n", r.good(0, OF_ORDER_13, 49155, 16, 5, 4), 1);
    }

    private static void goodOfAnyPoint() {
        CHECK.sentence("37: good for POINT Q: Q of any ORDER");
        PointRings r = Edge.with(97, 2, 3);
        Naive e = new Naive(97, 2, 3);
        for (int q : e.points) {
            for (int first = 1; first < 5; first++) {
                for (int second = 1; second < 5; second++) {
                    CHECK.due("Q " + q + ", r " + first + ", s " + second,
                        r.good(0, OF_ORDER_5, q, 3, first, second), e.good(OF_ORDER_5, q, 3, first, second));
                }
            }
        }
        CHECK.due("INFINITY", Edge.with(7, 0, 3).good(0, OF_ORDER_13, Edge.INFINITY, 1, 1, 1), 1);
    }

    private static void rAndSFrom1() {
        CHECK.sentence("37: if r, s are 1 to n - 1");
        PointRings r = Edge.with(7, 0, 3);
        for (int v : new int[] {0, -1, -12, 13, 14, 26, 18, Edge.LEAST, Edge.GREATEST}) {
            CHECK.due("r " + v, r.good(0, OF_ORDER_13, 49155, 3, v, 4), 0);
            CHECK.due("s " + v, r.good(0, OF_ORDER_13, 49155, 3, 5, v), 0);
            CHECK.due("r and s " + v, r.good(0, OF_ORDER_13, 49155, 3, v, v), 0);
        }
        CHECK.due("r + n", r.good(0, OF_ORDER_13, 49155, 3, 5 + 13, 4), 0);
        CHECK.due("s + n", r.good(0, OF_ORDER_13, 49155, 3, 5, 4 + 13), 0);
        CHECK.due("s - n", r.good(0, OF_ORDER_13, 49155, 3, 5, 4 - 13), 0);
        CHECK.due("s n - 1", r.good(0, OF_ORDER_13, 16386, 11, 1, 12), 1);
        // the x that it comes to is 0 modulo n, as r is
        CHECK.due("r 0, x 0", Edge.with(5, 0, 1).good(0, 1, 1, 1, 0, 1), 0);
        CHECK.due("r 0, x n", Edge.with(23, 1, 5).good(0, Edge.pair(11, 6), Edge.pair(11, 6), 1, 0, 1), 0);
        CHECK.due("r 0, x 22, n 2", Edge.with(23, 0, 1).good(0, Edge.pair(22, 0), Edge.pair(22, 0), 1, 0, 1), 0);
    }

    private static void itComesToInfinity() {
        CHECK.sentence("37: (INFINITY: not)");
        PointRings r = Edge.with(7, 0, 3);
        for (int first = 1; first < 13; first++) {
            for (int second = 1; second < 13; second++) {
                CHECK.due("h 0, Q INFINITY", r.good(0, OF_ORDER_13, Edge.INFINITY, 0, first, second), 0);
                CHECK.due("h n, Q INFINITY", r.good(0, OF_ORDER_13, Edge.INFINITY, 13, first, second), 0);
            }
            // h + r is 0 modulo n, and Q is G
            CHECK.due("G and its NEGATIVE", r.good(0, OF_ORDER_13, OF_ORDER_13, 13 - first, first, 1), 0);
        }
        CHECK.due("y 0", Edge.with(23, 0, 2).good(0, Edge.pair(7, 0), Edge.pair(7, 0), 1, 1, 1), 0);
    }

    private static void goodBad() {
        CHECK.sentence("37: BAD");
        PointRings r = Edge.with(7, 0, 3);
        for (int c : Edge.noCurves(1)) {
            CHECK.due("of no curve", r.good(c, OF_ORDER_13, OF_ORDER_13, 0, 1, 1), Edge.BAD);
            CHECK.due("of no curve, r is 0", r.good(c, OF_ORDER_13, OF_ORDER_13, 0, 0, 1), Edge.BAD);
        }
        for (int s : Edge.noPoints()) {
            CHECK.due("G is no POINT " + s, Edge.with(23, 1, 1).good(0, s, 1, 0, 1, 1), Edge.BAD);
            CHECK.due("Q is no POINT " + s, Edge.with(23, 1, 1).good(0, Edge.pair(5, 4), s, 0, 1, 1), Edge.BAD);
            CHECK.due("Q is no POINT, s is n", Edge.with(23, 1, 1).good(0, Edge.pair(5, 4), s, 0, 1, 7), Edge.BAD);
        }
    }

    private static void goodOrderIsNoPrime() {
        CHECK.sentence("37: BAD: also G's ORDER is no prime");
        PointRings r = Edge.with(23, 1, 1);
        Naive e = new Naive(23, 1, 1);
        for (int s : e.points) {
            boolean prime = Naive.isPrime(e.order(s));
            CHECK.due("ORDER " + e.order(s), r.good(0, s, 1, 0, 1, 1) == Edge.BAD ? 0 : 1, prime ? 1 : 0);
            CHECK.due("ORDER " + e.order(s) + ", r is 0", r.good(0, s, 1, 0, 0, 1), prime ? 0 : Edge.BAD);
        }
        CHECK.due("ORDER 1", r.good(0, Edge.INFINITY, 1, 0, 1, 1), Edge.BAD);
        CHECK.due("ORDER 9", Edge.with(5, 1, 1).good(0, 1, 1, 0, 1, 1), Edge.BAD);
    }

    private static void hBelowZero() {
        CHECK.sentence("37: BAD: h is below 0.");
        PointRings r = Edge.with(7, 0, 3);
        for (int h : new int[] {-1, -10, -13, Edge.LEAST}) {
            CHECK.due("h " + h, r.good(0, OF_ORDER_13, 49155, h, 5, 4), Edge.BAD);
            CHECK.due("h " + h + ", r is 0", r.good(0, OF_ORDER_13, 49155, h, 0, 4), Edge.BAD);
        }
        CHECK.due("h 0", r.good(0, OF_ORDER_13, 16386, 0, 1, 1), 1);
    }
}
