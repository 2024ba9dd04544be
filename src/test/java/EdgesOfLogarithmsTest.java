/** The boundary cases of promises 31 and 32: logarithms and embeddings; sentence by sentence. */
public final class EdgesOfLogarithmsTest {
    private static final Check CHECK = new Check("EdgesOfLogarithmsTest");

    public static void main(String[] args) {
        zeroOrMore();
        theLeastK();
        theGreatestOrders();
        noLogarithm();
        logBad();
        theLeastEmbedding();
        embeddingBad();
        embeddingNone();
        CHECK.end();
    }

    private static void zeroOrMore() {
        CHECK.sentence("31: The least k, 0 or more");
        PointRings r = Edge.with(23, 1, 1);
        for (int s : new Naive(23, 1, 1).points) {
            CHECK.due("of INFINITY by " + s, r.log(0, s, Edge.INFINITY), 0);
            CHECK.due("of " + s + " by itself", r.log(0, s, s), s == Edge.INFINITY ? 0 : 1);
        }
        CHECK.due("of 0, 0 by itself", Edge.with(5, 1, 0).log(0, 0, 0), 1);
    }

    private static void theLeastK() {
        CHECK.sentence("31: of which k TIMES P is Q.");
        for (int[] e : new int[][] {{5, 2, 0}, {5, 3, 0}, {5, 4, 0}, {7, 0, 1}, {23, 1, 1}, {97, 2, 3}}) {
            PointRings r = Edge.with(e[0], e[1], e[2]);
            Naive plain = new Naive(e[0], e[1], e[2]);
            for (int s : plain.points) {
                for (int t : plain.points) {
                    CHECK.due("of " + t + " by " + s + " modulo " + e[0], r.log(0, s, t), plain.log(s, t));
                }
            }
        }
    }

    private static void theGreatestOrders() {
        CHECK.sentence("31: k up to ORDER - 1");
        everyLogarithm(new int[] {10007, 2, 30}, 16667, 10091);
        everyLogarithm(new int[] {10007, 5, 200}, 50122, 5104);
    }

    private static void everyLogarithm(int[] e, int base, int order) {
        PointRings r = Edge.with(e[0], e[1], e[2]);
        Naive plain = new Naive(e[0], e[1], e[2]);
        int at = Edge.INFINITY;
        for (int k = 0; k < order; k++) {
            CHECK.due("of " + k + " TIMES " + base, r.log(0, base, at), k);
            at = plain.add(at, base);
        }
        CHECK.due("ORDER TIMES is INFINITY", at, Edge.INFINITY);
        CHECK.due("of the NEGATIVE", r.log(0, base, plain.negative(base)), order - 1);
    }

    private static void noLogarithm() {
        CHECK.sentence("31: BAD; NONE.");
        PointRings r = Edge.with(23, 1, 1);
        CHECK.due("by INFINITY", r.log(0, Edge.INFINITY, 1), Edge.NONE);
        CHECK.due("of a POINT of ORDER 2 by one of ORDER 7", r.log(0, Edge.pair(5, 4), Edge.pair(4, 0)), Edge.NONE);
        CHECK.due("of a POINT of ORDER 28 by one of ORDER 2", r.log(0, Edge.pair(4, 0), 1), Edge.NONE);
        CHECK.due("by another of ORDER 2", Edge.with(5, 1, 0).log(0, 0, Edge.pair(2, 0)), Edge.NONE);
        CHECK.due("of Q by P", Edge.with(10007, 5, 200).log(0, 50122, 1638400), Edge.NONE);
        CHECK.due("of P by Q", Edge.with(10007, 5, 200).log(0, 1638400, 50122), Edge.NONE);
        CHECK.due("of Q by P, rings of 94 and 94", Edge.with(8837, 1, 0).log(0, 37017, 118936), Edge.NONE);
    }

    private static void logBad() {
        CHECK.sentence("31: BAD");
        PointRings r = Edge.with(23, 1, 1);
        for (int s : Edge.noPoints()) {
            CHECK.due("by no POINT " + s, r.log(0, s, Edge.INFINITY), Edge.BAD);
            CHECK.due("of no POINT " + s, r.log(0, 1, s), Edge.BAD);
            CHECK.due("of no POINT " + s + " by INFINITY", r.log(0, Edge.INFINITY, s), Edge.BAD);
        }
        for (int c : Edge.noCurves(1)) {
            CHECK.due("of no curve", r.log(c, Edge.INFINITY, Edge.INFINITY), Edge.BAD);
        }
    }

    private static void theLeastEmbedding() {
        CHECK.sentence("32: The least k above 0 of which n divides p^k - 1.");
        for (int p : new int[] {5, 7, 23, 97, 10007}) {
            PointRings r = Edge.with(p, 0, 1);
            Naive e = new Naive(p, 0, 1);
            CHECK.due("n 2", r.embedding(0, 2), 1);
            CHECK.due("n p - 1", r.embedding(0, p - 1), 1);
            CHECK.due("n p + 1", r.embedding(0, p + 1), 2);
            for (int n : new int[] {3, 4, 5, 6, 7, 8, 19990, 19991, 19993, 19997, 19998, 19999, 20000}) {
                CHECK.due("n " + n + " of " + p, r.embedding(0, n), e.embedding(n));
            }
        }
        CHECK.due("n - 1 for n 19997", Edge.with(5, 1, 1).embedding(0, 19997), 19996);
        CHECK.due("n 20000", Edge.with(23, 1, 1).embedding(0, 20000), 500);
        for (int n = 2; n < 700; n++) {
            CHECK.due("n " + n + " of 23", Edge.with(23, 1, 1).embedding(0, n), new Naive(23, 1, 1).embedding(n));
        }
    }

    private static void embeddingBad() {
        CHECK.sentence("32: BAD: n is not 2 to 20000");
        PointRings r = Edge.with(23, 1, 1);
        for (int n : new int[] {1, 0, -1, -2, -20000, 20001, 20002, 23 * 1000, Edge.LEAST, Edge.GREATEST}) {
            CHECK.due("n " + n, r.embedding(0, n), Edge.BAD);
        }
        for (int c : Edge.noCurves(1)) {
            CHECK.due("of no curve", r.embedding(c, 2), Edge.BAD);
            CHECK.due("of no curve, n 23", r.embedding(c, 23), Edge.BAD);
        }
    }

    private static void embeddingNone() {
        CHECK.sentence("32: NONE.");
        for (int p : new int[] {5, 23, 97, 9973}) {
            PointRings r = Edge.with(p, 0, 1);
            for (int n = p; n <= 20000; n += p * Math.max(1, 20000 / p / 20)) {
                CHECK.due("n " + n + ", a multiple of " + p, r.embedding(0, n), Edge.NONE);
            }
        }
        CHECK.due("n 20000 of 5", Edge.with(5, 1, 1).embedding(0, 20000), Edge.NONE);
        CHECK.due("n p of the greatest", Edge.with(10007, 1, 1).embedding(0, 10007), Edge.NONE);
    }
}
