/** The boundary cases of promises 33 to 35: kernels; sentence by sentence. */
public final class EdgesOfKernelsTest {
    private static final Check CHECK = new Check("EdgesOfKernelsTest");
    /** y^2 = x^3 + x + 62 modulo 397: (1, 8) is of ORDER 400. */
    private static final int OF_ORDER_400 = 16392;
    /** y^2 = x^3 + x + 27 modulo 397: (0, 60) is of ORDER 401. */
    private static final int OF_ORDER_401 = 60;

    public static void main(String[] args) {
        theCurveOfAKernel();
        theKernelOfInfinity();
        sumsOverTheGreatestPrime();
        quotientBad();
        orderAbove400();
        noRoomForAQuotient();
        theImage();
        imageInTheKernel();
        imageBad();
        imageOfACurveNotMadeSo();
        whatAKernelIs();
        kernelBad();
        kernelOfAnother();
        CHECK.end();
    }

    private static void theCurveOfAKernel() {
        CHECK.sentence("33: The curve that the KERNEL of a POINT makes, as a new one: its number.");
        for (int[] e : new int[][] {{5, 2, 0}, {5, 4, 0}, {7, 0, 1}, {23, 1, 1}, {97, 2, 3}}) {
            Naive plain = new Naive(e[0], e[1], e[2]);
            PointRings r = Edge.with(e[0], e[1], e[2]);
            for (int s : plain.points) {
                Naive made = plain.quotient(s);
                CHECK.due("quotient(0, " + s + ")", r.quotient(0, s), 1);
                CHECK.due("its p", r.told(1, 0), e[0]);
                CHECK.due("its a", r.told(1, 1), made.a);
                CHECK.due("its b", r.told(1, 2), made.b);
                CHECK.due("its N is that of the first", r.count(1), plain.points.size());
                r.drop();
            }
        }
    }

    private static void theKernelOfInfinity() {
        CHECK.sentence("33: 0, 1, .. ORDER - 1 TIMES P: of INFINITY just INFINITY");
        PointRings r = Edge.with(23, 1, 1);
        CHECK.due("quotient", r.quotient(0, Edge.INFINITY), 1);
        CHECK.due("the same a", r.told(1, 1), 1);
        CHECK.due("the same b", r.told(1, 2), 1);
        CHECK.due("ORDER", r.kernel(1, 2), 1);
        for (int s : new Naive(23, 1, 1).points) {
            CHECK.due("IMAGE of " + s, r.image(1, s), s);
        }
    }

    private static void sumsOverTheGreatestPrime() {
        CHECK.sentence("33: (all modulo p)");
        int[][] curves = {{10007, 5, 200}, {10007, 10006, 10006}, {9973, 9972, 9970}, {9901, 0, 1}, {8837, 1, 0}};
        for (int[] e : curves) {
            Naive plain = new Naive(e[0], e[1], e[2]);
            PointRings r = Edge.with(e[0], e[1], e[2]);
            int tried = 0;
            for (int i = plain.points.size() - 1; i > 0 && tried < 6; i--) {
                int s = plain.points.get(i);
                if (plain.order(s) <= 400) {
                    tried++;
                    Naive made = plain.quotient(s);
                    CHECK.due("quotient", r.quotient(0, s), 1);
                    CHECK.due("a by " + s + " of " + e[0], r.told(1, 1), made.a);
                    CHECK.due("b by " + s + " of " + e[0], r.told(1, 2), made.b);
                    int t = plain.points.get(plain.points.size() - 2);
                    CHECK.due("IMAGE by " + s, r.image(1, t), plain.image(s, t));
                    r.drop();
                }
            }
        }
    }

    private static void quotientBad() {
        CHECK.sentence("33: BAD");
        PointRings r = Edge.with(23, 1, 1);
        for (int s : Edge.noPoints()) {
            CHECK.due("by no POINT " + s, r.quotient(0, s), Edge.BAD);
        }
        for (int c : Edge.noCurves(1)) {
            CHECK.due("of no curve", r.quotient(c, Edge.INFINITY), Edge.BAD);
        }
        CHECK.due("curves()", r.curves(), 1);
    }

    private static void orderAbove400() {
        CHECK.sentence("33: NO: its ORDER is above 400");
        PointRings most = Edge.with(397, 1, 62);
        CHECK.due("the ORDER", most.order(0, OF_ORDER_400), 400);
        CHECK.due("400 is not above", most.quotient(0, OF_ORDER_400), 1);
        CHECK.due("its ORDER", most.kernel(1, 2), 400);
        CHECK.due("its N", most.count(1), 400);
        PointRings above = Edge.with(397, 1, 27);
        CHECK.due("the ORDER", above.order(0, OF_ORDER_401), 401);
        CHECK.due("401", above.quotient(0, OF_ORDER_401), Edge.NO);
        CHECK.due("10091", Edge.with(10007, 2, 30).quotient(0, 16667), Edge.NO);
        CHECK.due("NO makes none", above.curves(), 1);
        CHECK.due("no KERNEL", above.kernel(1, 0), Edge.BAD);
        CHECK.due("the next number", above.quotient(0, Edge.INFINITY), 1);
    }

    private static void noRoomForAQuotient() {
        CHECK.sentence("33: FULL.");
        PointRings r = Edge.filled(23);
        CHECK.due("the 24th", r.quotient(22, 81924), 23);
        CHECK.due("the 25th", r.quotient(0, 81924), Edge.FULL);
        CHECK.due("by INFINITY", r.quotient(0, Edge.INFINITY), Edge.FULL);
        CHECK.due("by no POINT", r.quotient(0, 0), Edge.BAD);
        CHECK.due("curves()", r.curves(), 24);
        PointRings above = Edge.with(397, 1, 27);
        for (int i = 1; i < 24; i++) {
            above.curve(5, 1, 1);
        }
        CHECK.due("NO is ahead of FULL", above.quotient(0, OF_ORDER_401), Edge.NO);
    }

    private static void theImage() {
        CHECK.sentence("34: The IMAGE of a POINT of the curve from which curve d was made by a KERNEL.");
        for (int[] e : new int[][] {{5, 4, 0}, {7, 0, 1}, {23, 1, 1}}) {
            Naive plain = new Naive(e[0], e[1], e[2]);
            PointRings r = Edge.with(e[0], e[1], e[2]);
            for (int s : plain.points) {
                r.quotient(0, s);
                for (int t : plain.points) {
                    CHECK.due("of " + t + " by " + s + " modulo " + e[0], r.image(1, t), plain.image(s, t));
                    CHECK.holds("it is a POINT of curve d", r.rank(1, r.image(1, t)) >= 0);
                }
                r.drop();
            }
        }
        PointRings chain = Edge.with(23, 1, 1);
        chain.curve(97, 2, 3);
        chain.quotient(0, Edge.pair(4, 0));
        chain.curve(5, 1, 1);
        chain.quotient(2, Edge.pair(5, 8));
        int once = chain.image(2, Edge.pair(1, 7));
        CHECK.due("by the first KERNEL", once, 20);
        Naive second = new Naive(23, chain.told(2, 1), chain.told(2, 2));
        CHECK.due("then by that of a curve so made", chain.image(4, once), second.image(Edge.pair(5, 8), once));
    }

    private static void imageInTheKernel() {
        CHECK.sentence("34: INFINITY, if it is in the KERNEL");
        PointRings r = Edge.with(23, 1, 1);
        Naive plain = new Naive(23, 1, 1);
        for (int s : new int[] {Edge.INFINITY, Edge.pair(4, 0), 180227, Edge.pair(5, 4), 1}) {
            r.quotient(0, s);
            for (int t : plain.points) {
                boolean in = plain.kernel(s).contains(t);
                CHECK.due(t + " by " + s, r.image(1, t) == Edge.INFINITY ? 1 : 0, in ? 1 : 0);
            }
            r.drop();
        }
        PointRings most = Edge.with(397, 1, 62);
        most.quotient(0, OF_ORDER_400);
        for (int s : new Naive(397, 1, 62).points) {
            CHECK.due("all are in it: " + s, most.image(1, s), Edge.INFINITY);
        }
    }

    private static void imageBad() {
        CHECK.sentence("34: BAD");
        PointRings r = Edge.with(23, 1, 1);
        r.quotient(0, Edge.pair(4, 0));
        for (int s : Edge.noPoints()) {
            CHECK.due("of no POINT " + s, r.image(1, s), Edge.BAD);
        }
        CHECK.holds("a POINT of curve d", r.rank(1, Edge.pair(5, 8)) > 0);
        CHECK.due("that is none of the curve ahead of it", r.image(1, Edge.pair(5, 8)), Edge.BAD);
        for (int c : Edge.noCurves(2)) {
            CHECK.due("of no curve", r.image(c, Edge.INFINITY), Edge.BAD);
        }
    }

    private static void imageOfACurveNotMadeSo() {
        CHECK.sentence("34: BAD: also d was not made so.");
        PointRings r = Edge.with(23, 1, 1);
        r.quotient(0, Edge.INFINITY);
        r.twist(1);
        for (int s : new int[] {Edge.INFINITY, 1}) {
            CHECK.due("by curve", r.image(0, s), Edge.BAD);
            CHECK.due("by quotient", r.image(1, s), s);
            CHECK.due("by twist", r.image(2, s), Edge.BAD);
        }
        r.drop();
        r.drop();
        r.curve(23, 1, 1);
        CHECK.due("by curve, where a quotient was", r.image(1, 1), Edge.BAD);
    }

    private static void whatAKernelIs() {
        CHECK.sentence("35: Of a curve that was made by a KERNEL: 0 from which curve, 1 of which POINT, 2 its ORDER.");
        PointRings r = Edge.filled(23);
        r.quotient(22, Edge.pair(5, 4));
        CHECK.due("from", r.kernel(23, 0), 22);
        CHECK.due("of", r.kernel(23, 1), Edge.pair(5, 4));
        CHECK.due("ORDER", r.kernel(23, 2), 7);
        r.drop();
        r.quotient(0, Edge.INFINITY);
        CHECK.due("from", r.kernel(23, 0), 0);
        CHECK.due("of", r.kernel(23, 1), Edge.INFINITY);
        CHECK.due("ORDER", r.kernel(23, 2), 1);
        r.drop();
        r.quotient(3, Edge.pair(4, 0));
        CHECK.due("ORDER", r.kernel(23, 2), 2);
    }

    private static void kernelBad() {
        CHECK.sentence("35: BAD");
        PointRings r = Edge.with(23, 1, 1);
        r.quotient(0, 1);
        for (int what : new int[] {-1, 3, 4, Edge.LEAST, Edge.GREATEST}) {
            CHECK.due("what " + what, r.kernel(1, what), Edge.BAD);
        }
        for (int c : Edge.noCurves(2)) {
            for (int what = 0; what < 3; what++) {
                CHECK.due("of no curve", r.kernel(c, what), Edge.BAD);
            }
        }
    }

    private static void kernelOfAnother() {
        CHECK.sentence("35: BAD: also another.");
        PointRings r = Edge.with(23, 1, 1);
        r.quotient(0, 1);
        r.twist(1);
        for (int what = 0; what < 3; what++) {
            CHECK.due("by curve", r.kernel(0, what), Edge.BAD);
            CHECK.due("by twist", r.kernel(2, what), Edge.BAD);
        }
        r.drop();
        r.drop();
        r.twist(0);
        for (int what = 0; what < 3; what++) {
            CHECK.due("by twist, where a quotient was", r.kernel(1, what), Edge.BAD);
        }
    }
}
