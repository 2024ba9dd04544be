/** The boundary cases of promises 1 to 6, 40 and 41: curves, twists, maps; sentence by sentence. */
public final class EdgesOfCurvesTest {
    private static final Check CHECK = new Check("EdgesOfCurvesTest");

    public static void main(String[] args) {
        aNewObjectHasNone();
        aCurveAndItsNumber();
        noneOfThesePrimes();
        notModuloP();
        itIsZero();
        noRoomForACurve();
        toldParts();
        toldJ();
        toldMark();
        toldLeastNoSquare();
        toldMapsToItself();
        toldBad();
        theTwist();
        noRoomForATwist();
        theLeastMap();
        noMap();
        mapBad();
        mappedPoints();
        mappedBad();
        howManyCurves();
        dropTheLatest();
        dropNone();
        CHECK.end();
    }

    private static void aNewObjectHasNone() {
        CHECK.sentence("1: No curves.");
        PointRings other = Edge.full();
        PointRings r = new PointRings();
        CHECK.due("curves()", r.curves(), 0);
        CHECK.due("drop()", r.drop(), Edge.NONE);
        CHECK.due("told(0, 0)", r.told(0, 0), Edge.BAD);
        CHECK.due("kernel(0, 0)", r.kernel(0, 0), Edge.BAD);
        CHECK.due("curve", r.curve(5, 1, 1), 0);
        CHECK.due("curves() of another object", other.curves(), 24);
    }

    private static void aCurveAndItsNumber() {
        CHECK.sentence("2: A curve: its number.");
        PointRings r = new PointRings();
        CHECK.due("of the least prime", r.curve(5, 1, 1), 0);
        CHECK.due("of the greatest prime", r.curve(10007, 10006, 10006), 1);
        CHECK.due("the same once more", r.curve(5, 1, 1), 2);
        CHECK.due("a 0", r.curve(5, 0, 4), 3);
        CHECK.due("b 0", r.curve(5, 4, 0), 4);
        CHECK.due("b of it", r.told(4, 2), 0);
    }

    private static void noneOfThesePrimes() {
        CHECK.sentence("2: BAD: p is none of these primes");
        PointRings r = new PointRings();
        for (int p : new int[] {3, 2, 1, 0, -1, -5, -7, 4, 6, 9, 25, 49, 91, 121, 561, 9409, 9801, 10001, 10003, 10005,
            10006, 10008, 10009, 16381, 32749, 46349, 65537, Edge.GREATEST, Edge.LEAST}) {
            CHECK.due("curve(" + p + ", 0, 1)", r.curve(p, 0, 1), Edge.BAD);
            CHECK.due("curve(" + p + ", 1, 1)", r.curve(p, 1, 1), Edge.BAD);
        }
        CHECK.due("curves()", r.curves(), 0);
    }

    private static void notModuloP() {
        CHECK.sentence("2: BAD: a, b not modulo p");
        PointRings r = new PointRings();
        for (int p : new int[] {5, 23, 10007}) {
            for (int v : new int[] {-1, -p, p, p + 1, 2 * p, Edge.GREATEST, Edge.LEAST}) {
                CHECK.due("curve(" + p + ", " + v + ", 1)", r.curve(p, v, 1), Edge.BAD);
                CHECK.due("curve(" + p + ", 1, " + v + ")", r.curve(p, 1, v), Edge.BAD);
                CHECK.due("curve(" + p + ", 0, " + v + ")", r.curve(p, 0, v), Edge.BAD);
                CHECK.due("curve(" + p + ", " + v + ", 0)", r.curve(p, v, 0), Edge.BAD);
            }
        }
        CHECK.due("p - 1 is", r.curve(5, 4, 4), 0);
    }

    private static void itIsZero() {
        CHECK.sentence("2: NO: 4 a^3 + 27 b^2 is 0.");
        PointRings r = new PointRings();
        for (int[] e : new int[][] {{5, 0, 0}, {5, 2, 2}, {5, 2, 3}, {5, 3, 1}, {5, 3, 4}, {10007, 0, 0},
            {10007, 10004, 2}, {10007, 10004, 10005}, {10007, 9995, 16}, {23, 20, 2}}) {
            CHECK.due("curve(" + e[0] + ", " + e[1] + ", " + e[2] + ")", r.curve(e[0], e[1], e[2]), Edge.NO);
        }
        CHECK.due("curves()", r.curves(), 0);
        CHECK.due("next to one", r.curve(5, 2, 1), 0);
    }

    private static void noRoomForACurve() {
        CHECK.sentence("2: FULL.");
        PointRings r = Edge.filled(23);
        CHECK.due("the 24th", r.curve(5, 1, 1), 23);
        CHECK.due("the 25th", r.curve(5, 1, 1), Edge.FULL);
        CHECK.due("once more", r.curve(10007, 1, 1), Edge.FULL);
        CHECK.due("curves()", r.curves(), 24);
        CHECK.due("drop()", r.drop(), 23);
        CHECK.due("room again", r.curve(7, 0, 3), 23);
        CHECK.due("p of the new one", r.told(23, 0), 7);
        CHECK.due("N of the new one", r.count(23), 13);
    }

    private static void toldParts() {
        CHECK.sentence("3: 0 p, 1 a, 2 b");
        PointRings r = Edge.with(10007, 10006, 0);
        CHECK.due("p", r.told(0, 0), 10007);
        CHECK.due("a", r.told(0, 1), 10006);
        CHECK.due("b", r.told(0, 2), 0);
    }

    private static void toldJ() {
        CHECK.sentence("3: 3 j");
        CHECK.due("a 0", Edge.with(10007, 0, 10006).told(0, 3), 0);
        CHECK.due("b 0", Edge.with(10007, 10006, 0).told(0, 3), 1728);
        CHECK.due("b 0, p below 1728", Edge.with(5, 4, 0).told(0, 3), 3);
        for (int p : new int[] {5, 7, 10007}) {
            for (int v = 1; v < 30; v++) {
                int a = Math.floorMod(-v, p);
                if (Naive.isCurve(p, a, 1)) {
                    CHECK.due("of " + p + ", " + a, Edge.with(p, a, 1).told(0, 3), new Naive(p, a, 1).j());
                }
            }
        }
    }

    private static void toldMark() {
        CHECK.sentence("3: 4 -16 (4 a^3 + 27 b^2) modulo p");
        CHECK.due("of 5, 1, 1: -496", Edge.with(5, 1, 1).told(0, 4), 4);
        CHECK.due("of 7, 0, 1: -432", Edge.with(7, 0, 1).told(0, 4), 2);
        CHECK.due("of 10007, 1, 0: -64", Edge.with(10007, 1, 0).told(0, 4), 9943);
        CHECK.due("of 10007, -1, 0: 64", Edge.with(10007, 10006, 0).told(0, 4), 64);
        CHECK.due("of 10007, -1, -1: -368", Edge.with(10007, 10006, 10006).told(0, 4), 9639);
    }

    private static void toldLeastNoSquare() {
        CHECK.sentence("3: 5 the least number that is no square");
        int[][] least = {{5, 2}, {7, 3}, {23, 5}, {41, 3}, {71, 7}, {311, 11}, {409, 7}, {479, 13}, {1559, 17},
            {5711, 19}, {10007, 5}};
        for (int[] of : least) {
            CHECK.due("of " + of[0], Edge.with(of[0], 0, 1).told(0, 5), of[1]);
        }
    }

    private static void toldMapsToItself() {
        CHECK.sentence("3: 6 how many MAPS lead from it to itself.");
        CHECK.due("a 0, p - 1 is 6", Edge.with(7, 0, 3).told(0, 6), 6);
        CHECK.due("a 0, p - 1 is 4", Edge.with(5, 0, 1).told(0, 6), 2);
        CHECK.due("a 0, p - 1 is 12", Edge.with(13, 0, 1).told(0, 6), 6);
        CHECK.due("b 0, p - 1 is 4", Edge.with(5, 1, 0).told(0, 6), 4);
        CHECK.due("b 0, p - 1 is 6", Edge.with(7, 3, 0).told(0, 6), 2);
        CHECK.due("b 0, p - 1 is 12", Edge.with(13, 1, 0).told(0, 6), 4);
        CHECK.due("neither is 0, p - 1 is 12", Edge.with(13, 1, 1).told(0, 6), 2);
    }

    private static void toldBad() {
        CHECK.sentence("3: BAD.");
        PointRings r = Edge.with(23, 1, 1);
        for (int what : new int[] {-1, 7, 8, Edge.LEAST, Edge.GREATEST}) {
            CHECK.due("told(0, " + what + ")", r.told(0, what), Edge.BAD);
        }
        for (int what = 0; what < 7; what++) {
            CHECK.due("told(1, " + what + ")", r.told(1, what), Edge.BAD);
            CHECK.due("told(-1, " + what + ")", r.told(-1, what), Edge.BAD);
        }
    }

    private static void theTwist() {
        CHECK.sentence("4: The TWIST of a curve, as a new one: its number.");
        PointRings r = Edge.with(10007, 10006, 10006);
        CHECK.due("twist", r.twist(0), 1);
        CHECK.due("p", r.told(1, 0), 10007);
        CHECK.due("a: -25", r.told(1, 1), 9982);
        CHECK.due("b: -125", r.told(1, 2), 9882);
        CHECK.due("the first one stays", r.told(0, 1), 10006);
        CHECK.due("twist of the twist", r.twist(1), 2);
        CHECK.due("its a: -625", r.told(2, 1), 9382);
        PointRings noA = Edge.with(5, 0, 1);
        noA.twist(0);
        CHECK.due("a 0 stays 0", noA.told(1, 1), 0);
        CHECK.due("b 8", noA.told(1, 2), 3);
        // modulo 41 the least number that is no square is 3, but the least generator is 6
        PointRings noGenerator = Edge.with(41, 1, 1);
        noGenerator.twist(0);
        CHECK.due("a: 3^2", noGenerator.told(1, 1), 9);
        CHECK.due("b: 3^3", noGenerator.told(1, 2), 27);
        CHECK.due("N", noGenerator.count(1), 84 - noGenerator.count(0));
    }

    private static void noRoomForATwist() {
        CHECK.sentence("4: BAD; FULL.");
        PointRings r = Edge.filled(23);
        CHECK.due("of no curve", r.twist(23), Edge.BAD);
        CHECK.due("the 24th", r.twist(22), 23);
        CHECK.due("the 25th", r.twist(23), Edge.FULL);
        CHECK.due("of no curve, FULL", r.twist(24), Edge.BAD);
        CHECK.due("below 0, FULL", r.twist(-1), Edge.BAD);
        CHECK.due("curves()", r.curves(), 24);
    }

    private static void theLeastMap() {
        CHECK.sentence("5: The least u of a MAP from curve c to curve d.");
        PointRings r = Edge.with(23, 1, 1);
        for (int u = 1; u < 23; u++) {
            CHECK.due("curve by " + u, r.curve(23, u * u * u * u % 23, u * u * u * u * u * u % 23), u);
            CHECK.due("map to it", r.map(0, u), Math.min(u, 23 - u));
        }
        CHECK.due("to itself", r.map(0, 0), 1);
        PointRings six = Edge.with(7, 0, 1);
        six.curve(7, 0, 1);
        CHECK.due("of six", six.map(0, 1), 1);
        PointRings four = Edge.with(13, 1, 0);
        four.curve(13, 3, 0);
        CHECK.due("of four: 2, 3, 10, 11", four.map(0, 1), 2);
        PointRings twisted = Edge.with(7, 3, 0);
        twisted.twist(0);
        CHECK.due("b 0, to the twist", twisted.map(0, 1), 2);
    }

    private static void noMap() {
        CHECK.sentence("5: NONE: also of two primes.");
        PointRings r = Edge.with(5, 1, 1);
        r.curve(7, 1, 1);
        r.curve(5, 4, 1);
        r.twist(0);
        CHECK.due("of two primes", r.map(0, 1), Edge.NONE);
        CHECK.due("of two primes, back", r.map(1, 0), Edge.NONE);
        CHECK.due("of another j", r.map(0, 2), Edge.NONE);
        CHECK.due("to the twist", r.map(0, 3), Edge.NONE);
        PointRings noA = Edge.with(7, 0, 1);
        noA.curve(7, 0, 3);
        noA.curve(7, 1, 0);
        CHECK.due("a 0, b is no sixth power", noA.map(0, 1), Edge.NONE);
        CHECK.due("from a 0 to b 0", noA.map(0, 2), Edge.NONE);
        CHECK.due("from b 0 to a 0", noA.map(2, 0), Edge.NONE);
    }

    private static void mapBad() {
        CHECK.sentence("5: BAD");
        PointRings r = Edge.with(5, 1, 1);
        for (int c : Edge.noCurves(1)) {
            CHECK.due("from " + c, r.map(c, 0), Edge.BAD);
            CHECK.due("to " + c, r.map(0, c), Edge.BAD);
            CHECK.due("from and to " + c, r.map(c, c), Edge.BAD);
        }
    }

    private static void mappedPoints() {
        CHECK.sentence("6: (x u^2, y u^3) .. (It is a POINT of the curve a u^4, b u^6.)");
        PointRings r = Edge.with(23, 1, 1);
        Naive e = new Naive(23, 1, 1);
        for (int u = 1; u < 23; u++) {
            r.curve(23, u * u * u * u % 23, u * u * u * u * u * u % 23);
            for (int s : e.points) {
                int to = s == Edge.INFINITY ? s : Edge.pair(e.x(s) * u * u % 23, e.y(s) * u * u * u % 23);
                CHECK.due("mapped(0, " + u + ", " + s + ")", r.mapped(0, u, s), to);
                CHECK.holds("is a POINT there", r.rank(u, to) >= 0);
            }
        }
        PointRings most = Edge.with(10007, 1, 3);
        CHECK.due("by p - 1", most.mapped(0, 10006, 163948310), Edge.pair(10006, 1));
        CHECK.due("by 1", most.mapped(0, 1, 163948310), 163948310);
        CHECK.due("by p - 2", most.mapped(0, 10005, 163948310), Edge.pair(10003, 8));
    }

    private static void mappedBad() {
        CHECK.sentence("6: BAD: also u is not 1 to p - 1.");
        PointRings r = Edge.with(23, 1, 1);
        for (int u : new int[] {0, 23, 24, 46, -1, -22, -23, Edge.LEAST, Edge.GREATEST}) {
            CHECK.due("u " + u, r.mapped(0, u, 1), Edge.BAD);
            CHECK.due("u " + u + " of INFINITY", r.mapped(0, u, Edge.INFINITY), Edge.BAD);
        }
        CHECK.due("u 22", r.mapped(0, 22, 1), 22);
        CHECK.due("u 22 of INFINITY", r.mapped(0, 22, Edge.INFINITY), Edge.INFINITY);
        for (int s : Edge.noPoints()) {
            CHECK.due("of no POINT " + s, r.mapped(0, 3, s), Edge.BAD);
        }
    }

    private static void howManyCurves() {
        CHECK.sentence("40: How many curves there are.");
        PointRings r = new PointRings();
        CHECK.due("none", r.curves(), 0);
        for (int i = 1; i <= 24; i++) {
            r.curve(23, 0, 0);
            r.curve(22, 1, 1);
            r.twist(24);
            r.curve(23, 1, 1);
            CHECK.due("after " + i, r.curves(), i);
        }
        r.curve(23, 1, 1);
        CHECK.due("no more than 24", r.curves(), 24);
        r.drop();
        CHECK.due("after a drop", r.curves(), 23);
        r.twist(0);
        CHECK.due("with a twist", r.curves(), 24);
        r.drop();
        r.quotient(0, 1);
        CHECK.due("with a quotient", r.curves(), 24);
    }

    private static void dropTheLatest() {
        CHECK.sentence("41: The latest curve goes: its number.");
        PointRings r = Edge.with(5, 1, 1);
        r.curve(7, 0, 1);
        r.curve(23, 1, 1);
        r.quotient(2, 81924);
        CHECK.due("drop()", r.drop(), 3);
        CHECK.due("it is gone", r.told(3, 0), Edge.BAD);
        CHECK.due("no KERNEL of it", r.kernel(3, 0), Edge.BAD);
        CHECK.due("the others stay", r.told(2, 0), 23);
        CHECK.due("a twist in its place", r.twist(1), 3);
        CHECK.due("is not made by a KERNEL", r.kernel(3, 2), Edge.BAD);
        CHECK.due("and has no IMAGE", r.image(3, Edge.INFINITY), Edge.BAD);
        CHECK.due("drop()", r.drop(), 3);
        CHECK.due("drop()", r.drop(), 2);
        CHECK.due("N of the one that is left", r.count(1), 12);
        CHECK.due("drop()", r.drop(), 1);
        CHECK.due("another one in its place", r.curve(7, 0, 3), 1);
        CHECK.due("its N", r.count(1), 13);
        CHECK.due("its n1", r.made(1, 0), 1);
    }

    private static void dropNone() {
        CHECK.sentence("41: NONE.");
        PointRings r = Edge.full();
        for (int i = 23; i >= 0; i--) {
            CHECK.due("drop()", r.drop(), i);
        }
        CHECK.due("of none", r.drop(), Edge.NONE);
        CHECK.due("of none again", r.drop(), Edge.NONE);
        CHECK.due("curves()", r.curves(), 0);
        CHECK.due("curve", r.curve(5, 1, 1), 0);
    }
}
