import java.util.LinkedHashMap;
import java.util.Map;

/** The boundary cases of the document's 'Terms' that more than one promise is told by. */
public final class EdgesOfTermsTest {
    private static final Check CHECK = new Check("EdgesOfTermsTest");

    /** A call of which the other arguments are as told, so that it is refused for the one given alone. */
    private interface Call {
        long of(PointRings r, int given);
    }

    public static void main(String[] args) {
        noSuchCurve();
        noSuchPoint();
        noSuchPointOfTheGreatestPrime();
        badIsFirst();
        noIsAheadOfFull();
        fullIsAheadOfNone();
        refusalsChangeNothing();
        primesFrom5To10007();
        numbersModuloP();
        twentyFourCurves();
        noCurveWhereItIsZero();
        howAPointIsTold();
        theOrderOfPoints();
        fiveHundredTwelveCalls();
        CHECK.end();
    }

    private static Map<String, Call> callsOfACurve() {
        Map<String, Call> calls = new LinkedHashMap<>();
        calls.put("told", (r, c) -> r.told(c, 0));
        calls.put("twist", (r, c) -> r.twist(c));
        calls.put("map from", (r, c) -> r.map(c, 0));
        calls.put("map to", (r, c) -> r.map(0, c));
        calls.put("mapped", (r, c) -> r.mapped(c, 1, Edge.INFINITY));
        calls.put("root", (r, c) -> r.root(c, 1));
        calls.put("inverse", (r, c) -> r.inverse(c, 1));
        calls.put("power", (r, c) -> r.power(c, 1, 1));
        calls.put("generator", (r, c) -> r.generator(c));
        calls.put("point", (r, c) -> r.point(c, 0, 1));
        calls.put("lift odd", (r, c) -> r.lift(c, 0, true));
        calls.put("lift even", (r, c) -> r.lift(c, 0, false));
        calls.put("near", (r, c) -> r.near(c, 0));
        calls.put("nth", (r, c) -> r.nth(c, 0));
        calls.put("rank", (r, c) -> r.rank(c, Edge.INFINITY));
        calls.put("add", (r, c) -> r.add(c, Edge.INFINITY, Edge.INFINITY));
        calls.put("negative", (r, c) -> r.negative(c, Edge.INFINITY));
        calls.put("times", (r, c) -> r.times(c, Edge.INFINITY, 1));
        calls.put("alone", (r, c) -> r.alone(c, 0, 1));
        calls.put("count", (r, c) -> r.count(c));
        calls.put("countOver", (r, c) -> r.countOver(c, 1));
        calls.put("bound", (r, c) -> r.bound(c, 0));
        calls.put("proof 0", (r, c) -> r.proof(c, 0));
        calls.put("proof 1", (r, c) -> r.proof(c, 1));
        calls.put("supersingular", (r, c) -> r.supersingular(c));
        calls.put("order", (r, c) -> r.order(c, Edge.INFINITY));
        calls.put("ofOrder", (r, c) -> r.ofOrder(c, 1));
        calls.put("torsion", (r, c) -> r.torsion(c, 1));
        calls.put("made", (r, c) -> r.made(c, 0));
        calls.put("halves", (r, c) -> r.halves(c, Edge.INFINITY));
        calls.put("half", (r, c) -> r.half(c, Edge.INFINITY, 0));
        calls.put("log", (r, c) -> r.log(c, Edge.INFINITY, Edge.INFINITY));
        calls.put("embedding", (r, c) -> r.embedding(c, 2));
        calls.put("quotient", (r, c) -> r.quotient(c, Edge.INFINITY));
        calls.put("image", (r, c) -> r.image(c, Edge.INFINITY));
        calls.put("kernel", (r, c) -> r.kernel(c, 0));
        calls.put("sign", (r, c) -> r.sign(c, 81924, 1, 1, 0, 0));
        calls.put("good", (r, c) -> r.good(c, 81924, 81924, 0, 1, 1));
        return calls;
    }

    /** Calls of curve 0, y^2 = x^3 + x + 1 modulo 23; curve 1 was made of it by a KERNEL. */
    private static Map<String, Call> callsOfAPoint() {
        Map<String, Call> calls = new LinkedHashMap<>();
        calls.put("mapped", (r, s) -> r.mapped(0, 1, s));
        calls.put("rank", (r, s) -> r.rank(0, s));
        calls.put("add, the first", (r, s) -> r.add(0, s, 1));
        calls.put("add, the second", (r, s) -> r.add(0, 1, s));
        calls.put("add to INFINITY", (r, s) -> r.add(0, Edge.INFINITY, s));
        calls.put("add INFINITY to", (r, s) -> r.add(0, s, Edge.INFINITY));
        calls.put("add to itself", (r, s) -> r.add(0, s, s));
        calls.put("negative", (r, s) -> r.negative(0, s));
        calls.put("0 times", (r, s) -> r.times(0, s, 0));
        calls.put("1 times", (r, s) -> r.times(0, s, 1));
        calls.put("order", (r, s) -> r.order(0, s));
        calls.put("halves", (r, s) -> r.halves(0, s));
        calls.put("half", (r, s) -> r.half(0, s, 0));
        calls.put("half below 0", (r, s) -> r.half(0, s, -1));
        calls.put("log, the first", (r, s) -> r.log(0, s, 1));
        calls.put("log, the second", (r, s) -> r.log(0, 1, s));
        calls.put("log of itself", (r, s) -> r.log(0, s, s));
        calls.put("quotient", (r, s) -> r.quotient(0, s));
        calls.put("image", (r, s) -> r.image(1, s));
        calls.put("sign, G", (r, s) -> r.sign(0, s, 1, 1, 0, 0));
        calls.put("good, G", (r, s) -> r.good(0, s, 1, 0, 1, 1));
        calls.put("good, Q", (r, s) -> r.good(0, 81924, s, 0, 1, 1));
        calls.put("good, Q where r is 0", (r, s) -> r.good(0, 81924, s, 0, 0, 1));
        return calls;
    }

    private static void noSuchCurve() {
        CHECK.sentence("Terms: BAD: no such curve");
        for (Map.Entry<String, Call> call : callsOfACurve().entrySet()) {
            for (int many : new int[] {0, 1, 3, 24}) {
                PointRings r = Edge.filled(many);
                for (int c : Edge.noCurves(many)) {
                    CHECK.due(call.getKey() + " of curve " + c + " of " + many, call.getValue().of(r, c), Edge.BAD);
                }
            }
            PointRings r = Edge.filled(3);
            r.drop();
            CHECK.due(call.getKey() + " of a curve that went", call.getValue().of(r, 2), Edge.BAD);
        }
    }

    private static void noSuchPoint() {
        CHECK.sentence("Terms: BAD: no such POINT");
        for (Map.Entry<String, Call> call : callsOfAPoint().entrySet()) {
            PointRings r = Edge.with(23, 1, 1);
            r.quotient(0, 81924);
            for (int s : Edge.noPoints()) {
                CHECK.due(call.getKey() + " of " + s, call.getValue().of(r, s), Edge.BAD);
            }
        }
    }

    private static void noSuchPointOfTheGreatestPrime() {
        CHECK.sentence("Terms: A POINT is .. a pair x, y of numbers modulo p");
        int p = Edge.MOST_PRIME;
        PointRings r = Edge.with(p, 1, 3);
        for (int s : new int[] {Edge.pair(p, 1477), Edge.pair(0, 1477 + p), Edge.pair(p + p, 1477), Edge.pair(0, 0),
            Edge.pair(16383, 16383), Edge.pair(131071, 16383), Edge.pair(10006, 10005), Edge.pair(10006, 10007)}) {
            CHECK.due("rank of " + s, r.rank(0, s), Edge.BAD);
            CHECK.due("order of " + s, r.order(0, s), Edge.BAD);
        }
    }

    private static void badIsFirst() {
        CHECK.sentence("Terms: the first that fits of BAD, NO, FULL, NONE: BAD");
        PointRings r = Edge.full();
        CHECK.due("curve: BAD and NO", r.curve(25, 0, 0), Edge.BAD);
        CHECK.due("curve: BAD and FULL", r.curve(23, 23, 1), Edge.BAD);
        CHECK.due("twist: BAD and FULL", r.twist(24), Edge.BAD);
        CHECK.due("quotient: BAD and FULL", r.quotient(0, 2), Edge.BAD);
        CHECK.due("map: BAD and NONE", Edge.with(23, 1, 1).map(0, 1), Edge.BAD);
        CHECK.due("root: BAD and NONE", r.root(24, 5), Edge.BAD);
        CHECK.due("inverse: BAD and NONE", r.inverse(24, 0), Edge.BAD);
        CHECK.due("point: BAD and NONE", r.point(0, 2, 23), Edge.BAD);
        CHECK.due("lift: BAD and NONE", r.lift(24, 2, true), Edge.BAD);
        CHECK.due("nth: BAD and NONE", r.nth(24, -1), Edge.BAD);
        CHECK.due("alone: BAD and NONE", r.alone(0, 23, 0), Edge.BAD);
        CHECK.due("proof: BAD and NONE", Edge.with(5, 1, 0).proof(0, 2), Edge.BAD);
        CHECK.due("half: BAD and NONE", r.half(0, 2, 9), Edge.BAD);
        CHECK.due("log: BAD and NONE", r.log(0, Edge.INFINITY, 2), Edge.BAD);
        CHECK.due("embedding: BAD and NONE", r.embedding(0, 23 * 1000), Edge.BAD);
        CHECK.due("sign: BAD and NO", Edge.with(5, 0, 1).sign(0, 1, 1, 1, -1, 0), Edge.BAD);
    }

    private static void noIsAheadOfFull() {
        CHECK.sentence("Terms: the first that fits of BAD, NO, FULL, NONE: NO");
        CHECK.due("curve: NO and FULL", Edge.full().curve(23, 0, 0), Edge.NO);
        PointRings r = Edge.with(397, 1, 27);
        for (int i = 1; i < 24; i++) {
            r.curve(5, 1, 1);
        }
        CHECK.due("quotient: NO and FULL", r.quotient(0, 60), Edge.NO);
    }

    private static void fullIsAheadOfNone() {
        CHECK.sentence("Terms: FULL -4: of the calls that make a curve, and of no other");
        PointRings r = Edge.full();
        CHECK.due("curve", r.curve(23, 1, 1), Edge.FULL);
        CHECK.due("twist", r.twist(0), Edge.FULL);
        CHECK.due("quotient", r.quotient(0, 81924), Edge.FULL);
        CHECK.due("map", r.map(0, 23), 1);
        CHECK.due("alone, that goes by a TWIST", r.alone(0, 2, 1), 2);
        CHECK.due("proof, that goes by a TWIST", r.proof(0, 1), Edge.with(23, 1, 1).proof(0, 1));
        CHECK.due("census", r.census(5, 6), 4);
        CHECK.due("root that there is none of", r.root(0, 5), Edge.NONE);
    }

    private static void refusalsChangeNothing() {
        CHECK.sentence("Terms: they change nothing");
        PointRings r = Edge.with(397, 1, 27);
        r.quotient(0, Edge.INFINITY);
        r.twist(0);
        refuse(r);
        CHECK.due("the next number", r.curve(23, 1, 1), 3);
        while (r.curves() < 24) {
            r.quotient(3, 81924);
        }
        refuse(r);
        String before = Edge.state(r);
        r.curve(23, 1, 1);
        r.twist(0);
        r.quotient(0, Edge.INFINITY);
        CHECK.holds("FULL changed the object", Edge.state(r).equals(before));
        CHECK.due("the latest one", r.drop(), 23);
        PointRings none = new PointRings();
        CHECK.due("drop of none", none.drop(), Edge.NONE);
        CHECK.due("still none", none.curves(), 0);
        CHECK.due("the first one", none.curve(5, 1, 1), 0);
    }

    private static void refuse(PointRings r) {
        String before = Edge.state(r);
        r.curve(4, 1, 1);
        r.curve(5, 5, 1);
        r.curve(5, 0, 0);
        r.twist(-1);
        r.twist(24);
        r.quotient(0, 0);
        r.quotient(0, 60);
        r.quotient(-1, Edge.INFINITY);
        r.mapped(0, 0, Edge.INFINITY);
        r.sign(0, 60, 0, 1, 1, 0);
        r.good(0, 60, 60, -1, 1, 1);
        r.proof(0, 2);
        r.made(0, 4);
        r.image(0, Edge.INFINITY);
        r.kernel(0, 0);
        r.census(4, 1);
        r.kinds(67, 1);
        CHECK.holds("a refused call changed the object", Edge.state(r).equals(before));
    }

    private static void primesFrom5To10007() {
        CHECK.sentence("Terms: p is a prime, 5 to 10007");
        PointRings r = new PointRings();
        for (int p = -30; p < 10300; p++) {
            boolean taken = p >= 5 && p <= Edge.MOST_PRIME && Naive.isPrime(p);
            CHECK.due("curve(" + p + ", 0, 1)", r.curve(p, 0, 1), taken ? 0 : Edge.BAD);
            r.drop();
        }
        for (int p : new int[] {10009, 16411, 65537, 1000003, Edge.GREATEST, Edge.LEAST, -5, -10007}) {
            CHECK.due("curve(" + p + ", 0, 1)", r.curve(p, 0, 1), Edge.BAD);
        }
    }

    private static void numbersModuloP() {
        CHECK.sentence("Terms: numbers modulo p are 0 to p - 1");
        for (int p : new int[] {5, 23, Edge.MOST_PRIME}) {
            PointRings r = new PointRings();
            CHECK.due("a p - 1, b p - 1", r.curve(p, p - 1, p - 1) < 0 ? 1 : 0, Naive.isCurve(p, p - 1, p - 1) ? 0 : 1);
            CHECK.due("a 0", r.curve(p, 0, 1) >= 0 ? 1 : 0, 1);
            CHECK.due("b 0", r.curve(p, 1, 0) >= 0 ? 1 : 0, 1);
            CHECK.due("point -1, 0", r.point(0, -1, 0), Edge.BAD);
            CHECK.due("point p, 0", r.point(0, p, 0), Edge.BAD);
            CHECK.due("point 0, -1", r.point(0, 0, -1), Edge.BAD);
            CHECK.due("point 0, p", r.point(0, 0, p), Edge.BAD);
            CHECK.holds("point p - 1, p - 1", r.point(0, p - 1, p - 1) != Edge.BAD);
        }
    }

    private static void twentyFourCurves() {
        CHECK.sentence("Terms: CURVES (24) are numbered from 0 on, as they come");
        PointRings r = new PointRings();
        int[] primes = {5, 7, 11, 13, 17, 19, 23, 29, 31, 37, 41, 43, 47, 53, 59, 61, 67, 71, 73, 79, 83, 89, 97,
            10007};
        for (int i = 0; i < 24; i++) {
            CHECK.due("curve " + i, r.curve(primes[i], 0, 1), i);
        }
        CHECK.due("one more", r.curve(5, 0, 1), Edge.FULL);
        for (int i = 0; i < 24; i++) {
            CHECK.due("p of curve " + i, r.told(i, 0), primes[i]);
        }
        PointRings mixed = Edge.with(23, 1, 1);
        for (int i = 1; i < 24; i += 3) {
            CHECK.due("curve " + i, mixed.curve(23, 1, 1), i);
            if (i + 2 < 24) {
                CHECK.due("twist " + i, mixed.twist(0), i + 1);
                CHECK.due("quotient " + i, mixed.quotient(0, 81924), i + 2);
            }
        }
    }

    private static void noCurveWhereItIsZero() {
        CHECK.sentence("Terms: of which 4 a^3 + 27 b^2 is not 0 modulo p");
        PointRings r = new PointRings();
        for (int p : new int[] {5, 7, 11, 13, 23, 31}) {
            for (int a = 0; a < p; a++) {
                for (int b = 0; b < p; b++) {
                    int due = Naive.isCurve(p, a, b) ? 0 : Edge.NO;
                    CHECK.due("curve(" + p + ", " + a + ", " + b + ")", r.curve(p, a, b), due);
                    r.drop();
                }
            }
        }
        int p = Edge.MOST_PRIME;
        for (int t = 0; t < p; t++) {
            // a = -3 t^2, b = 2 t^3 are all that come to 0
            int a = Math.floorMod(-3L * t * t, p);
            int b = (int) (2L * t * t % p * t % p);
            CHECK.due("curve(" + p + ", " + a + ", " + b + ")", r.curve(p, a, b), Edge.NO);
        }
        for (int[] ab : new int[][] {{10006, 10006}, {10005, 10000}, {1, 0}, {0, 10006}, {10004, 3}, {10003, 2}}) {
            CHECK.due("curve(" + p + ", " + ab[0] + ", " + ab[1] + ")", r.curve(p, ab[0], ab[1]), 0);
            r.drop();
        }
    }

    private static void howAPointIsTold() {
        CHECK.sentence("Terms: INFINITY, told as -1, or a pair .. told as 16384 x + y");
        PointRings r = Edge.with(Edge.MOST_PRIME, 1, 3);
        CHECK.due("the greatest POINT", r.point(0, 10006, 10006), 163948310);
        CHECK.due("its rank", r.rank(0, 163948310), 10091);
        CHECK.due("the same by order", r.nth(0, 10091), 163948310);
        CHECK.due("its NEGATIVE", r.negative(0, 163948310), Edge.pair(10006, 1));
        CHECK.due("their SUM", r.add(0, 163948310, Edge.pair(10006, 1)), -1);
        CHECK.due("(0, 0)", Edge.with(5, 1, 0).point(0, 0, 0), 0);
        CHECK.due("(0, 0) is not INFINITY", Edge.with(5, 1, 0).order(0, 0), 2);
        CHECK.due("INFINITY is a POINT", Edge.with(5, 1, 0).order(0, -1), 1);
    }

    private static void theOrderOfPoints() {
        CHECK.sentence("Terms: POINTS are in order: INFINITY, then by x, then by y");
        for (int[] e : new int[][] {{5, 2, 0}, {5, 3, 0}, {23, 1, 1}, {97, 2, 3}}) {
            PointRings r = Edge.with(e[0], e[1], e[2]);
            Naive plain = new Naive(e[0], e[1], e[2]);
            for (int k = 0; k < plain.points.size(); k++) {
                CHECK.due("nth " + k, r.nth(0, k), plain.points.get(k));
                CHECK.due("rank of it", r.rank(0, plain.points.get(k)), k);
            }
        }
    }

    private static void fiveHundredTwelveCalls() {
        CHECK.sentence("What it is: An object is used for at most 512 calls");
        Naive plain = new Naive(Edge.MOST_PRIME, 2, 30);
        int base = 16667;
        int step = plain.times(base, 40);
        int target = Edge.INFINITY;
        PointRings r = new PointRings();
        CHECK.due("call 1", r.curve(Edge.MOST_PRIME, 2, 30), 0);
        for (int call = 2; call <= 510; call++) {
            if (call % 2 == 0) {
                target = plain.add(target, step);
                CHECK.due("call " + call, r.log(0, base, target), 20 * call % 10091);
            } else {
                CHECK.due("call " + call, r.quotient(0, Edge.INFINITY), call / 2 < 24 ? call / 2 : Edge.FULL);
            }
        }
        CHECK.due("call 511", r.drop(), 23);
        CHECK.due("call 512", r.twist(0), 23);
    }
}
