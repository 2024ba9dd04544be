/** Each promise of the document by its number: ordinary inputs, the edges that it names, wrong inputs. */
public final class PromisesTest {
    private static final int NONE = -1;
    private static final int BAD = -2;
    private static final int NO = -3;
    private static final int FULL = -4;
    private static final int INFINITY = -1;
    private static final int[] NO_CURVES = {-1, 1, 24, Integer.MIN_VALUE, Integer.MAX_VALUE};
    private static final Check CHECK = new Check("PromisesTest");

    public static void main(String[] args) {
        madeAndTold();
        twistsAndMaps();
        numbers();
        pointsAndTheirOrder();
        sums();
        counts();
        orders();
        makers();
        halvesAndLogarithms();
        kernels();
        signatures();
        allCurves();
        CHECK.end();
    }

    private static void due(String call, long got, long want) {
        CHECK.due(call, got, want);
    }

    private static PointRings with(int p, int a, int b) {
        PointRings r = new PointRings();
        due("curve(" + p + ", " + a + ", " + b + ")", r.curve(p, a, b), 0);
        return r;
    }

    private static PointRings full() {
        PointRings r = new PointRings();
        for (int i = 0; i < 24; i++) {
            due("curve " + i, r.curve(23, 1, 1), i);
        }
        return r;
    }

    private static void madeAndTold() {
        due("1: no curves", new PointRings().curves(), 0);
        due("1: nothing to drop", new PointRings().drop(), NONE);
        due("1: no curve 0", new PointRings().told(0, 0), BAD);
        PointRings r = new PointRings();
        for (int p : new int[] {-7, -1, 0, 1, 2, 3, 4, 6, 9, 25, 91, 10005, 10009, 10013, 65537,
            Integer.MIN_VALUE, Integer.MAX_VALUE}) {
            due("2: curve(" + p + ", 1, 1)", r.curve(p, 1, 1), BAD);
        }
        due("2: a below 0", r.curve(5, -1, 1), BAD);
        due("2: a is p", r.curve(5, 5, 1), BAD);
        due("2: b below 0", r.curve(5, 1, -1), BAD);
        due("2: b is p", r.curve(5, 1, 5), BAD);
        due("2: BAD is ahead of NO", r.curve(5, 0, 5), BAD);
        due("2: 0, 0", r.curve(5, 0, 0), NO);
        due("2: -3, 2", r.curve(10007, 10004, 2), NO);
        due("2: the least prime", r.curve(5, 1, 1), 0);
        due("2: the greatest prime", r.curve(10007, 10006, 10006), 1);
        due("2: the same again", r.curve(5, 1, 1), 2);
        due("2: refusals made none", r.curves(), 3);
        PointRings f = full();
        due("2: FULL", f.curve(23, 1, 1), FULL);
        due("2: BAD is ahead of FULL", f.curve(22, 1, 1), BAD);
        due("2: NO is ahead of FULL", f.curve(23, 0, 0), NO);
        due("2: still 24", f.curves(), 24);
        due("41: drop makes room", f.drop(), 23);
        due("2: again", f.curve(7, 0, 3), 23);
        due("2: the new one", f.told(23, 0), 7);
        toldOnly();
    }

    private static void toldOnly() {
        PointRings r = with(97, 2, 3);
        int[] want = {97, 2, 3, 36, 62, 5, 2};
        for (int what = 0; what < want.length; what++) {
            due("3: told " + what, r.told(0, what), want[what]);
        }
        for (int what : new int[] {-1, 7, Integer.MIN_VALUE, Integer.MAX_VALUE}) {
            due("3: told " + what, r.told(0, what), BAD);
        }
        for (int c : NO_CURVES) {
            due("3: no curve " + c, r.told(c, 0), BAD);
        }
        due("3: j of a 0", with(7, 0, 3).told(0, 3), 0);
        due("3: j of b 0", with(7, 3, 0).told(0, 3), 1728 % 7);
        due("3: six maps", with(7, 0, 3).told(0, 6), 6);
        due("3: two maps, p - 1 has no third", with(5, 0, 1).told(0, 6), 2);
        due("3: four maps", with(5, 1, 0).told(0, 6), 4);
        due("3: two maps, p - 1 has no fourth", with(7, 3, 0).told(0, 6), 2);
        due("3: no square of 7", with(7, 3, 0).told(0, 5), 3);
        due("3: no square of 5", with(5, 1, 0).told(0, 5), 2);
    }

    private static void twistsAndMaps() {
        PointRings r = with(23, 1, 1);
        due("4: twist", r.twist(0), 1);
        due("4: its a", r.told(1, 1), 25 % 23);
        due("4: its b", r.told(1, 2), 125 % 23);
        due("4: its N", r.count(1), 48 - 28);
        for (int c : new int[] {-1, 2, 24}) {
            due("4: no curve " + c, r.twist(c), BAD);
        }
        PointRings f = full();
        due("4: FULL", f.twist(0), FULL);
        due("4: BAD is ahead of FULL", f.twist(24), BAD);
        due("5: to itself", r.map(0, 0), 1);
        due("5: to its twist", r.map(0, 1), NONE);
        due("5: a curve that is mapped to, by 3", r.curve(23, 81 % 23, 729 % 23), 2);
        due("5: the least u", r.map(0, 2), 3);
        due("5: and back", r.map(2, 0), 8);
        due("5: another prime", r.curve(97, 1, 1), 3);
        due("5: of two primes", r.map(0, 3), NONE);
        for (int c : new int[] {-1, 4, 24}) {
            due("5: from no curve", r.map(c, 0), BAD);
            due("5: to no curve", r.map(0, c), BAD);
        }
        due("6: mapped", r.mapped(0, 3, 16391), 16384 * 9 + 7 * 27 % 23);
        due("6: it is a POINT there", r.rank(2, 16384 * 9 + 7 * 27 % 23) > 0 ? 1 : 0, 1);
        due("6: INFINITY", r.mapped(0, 3, INFINITY), INFINITY);
        due("6: u p - 1 makes the NEGATIVE", r.mapped(0, 22, 1), 22);
        due("6: u is 0", r.mapped(0, 0, 1), BAD);
        due("6: u is 0 of INFINITY", r.mapped(0, 0, INFINITY), BAD);
        due("6: u is p", r.mapped(0, 23, 1), BAD);
        due("6: u below 0", r.mapped(0, -1, 1), BAD);
        due("6: no POINT", r.mapped(0, 3, 2), BAD);
        due("6: no curve", r.mapped(4, 3, 1), BAD);
    }

    private static void numbers() {
        PointRings r = with(23, 1, 1);
        due("7: root of 0", r.root(0, 0), 0);
        due("7: the least root", r.root(0, 2), 5);
        due("7: of a number that is no square", r.root(0, 5), NONE);
        due("7: of -21", r.root(0, -21), 5);
        due("7: of 25", r.root(0, 25), 5);
        due("7: of the least int", r.root(0, Integer.MIN_VALUE), r.root(0, Math.floorMod(Integer.MIN_VALUE, 23)));
        due("8: 1", r.inverse(0, 1), 1);
        due("8: 2", r.inverse(0, 2), 12);
        due("8: 22", r.inverse(0, 22), 22);
        due("8: -1", r.inverse(0, -1), 22);
        due("8: 25", r.inverse(0, 25), 12);
        due("8: 0", r.inverse(0, 0), NONE);
        due("8: 46", r.inverse(0, 46), NONE);
        due("8: -23", r.inverse(0, -23), NONE);
        due("9: 0 to the 0", r.power(0, 0, 0), 1);
        due("9: 23 to the 0", r.power(0, 23, 0), 1);
        due("9: 0 to the 5", r.power(0, 0, 5), 0);
        due("9: 2 to the 10", r.power(0, 2, 10), 1024 % 23);
        due("9: -2 to the 3", r.power(0, -2, 3), 15);
        due("9: to the greatest", r.power(0, 5, Long.MAX_VALUE), r.power(0, 5, Long.MAX_VALUE % 22));
        due("9: e below 0", r.power(0, 2, -1), BAD);
        due("9: e the least", r.power(0, 2, Long.MIN_VALUE), BAD);
        due("10: of 23", r.generator(0), 5);
        due("10: of 5", with(5, 1, 1).generator(0), 2);
        due("10: of 7", with(7, 0, 3).generator(0), 3);
        due("10: of 97", with(97, 2, 3).generator(0), 5);
        due("10: of 409", with(409, 1, 1).generator(0), 21);
        for (int c : NO_CURVES) {
            due("7: no curve " + c, r.root(c, 1), BAD);
            due("8: no curve " + c, r.inverse(c, 0), BAD);
            due("9: no curve " + c, r.power(c, 1, 1), BAD);
            due("10: no curve " + c, r.generator(c), BAD);
        }
    }

    private static void pointsAndTheirOrder() {
        PointRings r = with(23, 1, 1);
        due("11: point", r.point(0, 11, 20), 180244);
        due("11: 0, 1", r.point(0, 0, 1), 1);
        due("11: not of the curve", r.point(0, 2, 1), NONE);
        due("11: x below 0", r.point(0, -1, 1), BAD);
        due("11: x is p", r.point(0, 23, 1), BAD);
        due("11: y below 0", r.point(0, 0, -1), BAD);
        due("11: y is p", r.point(0, 0, 23), BAD);
        due("11: y is p + 1", r.point(0, 0, 24), BAD);
        due("12: odd", r.lift(0, 0, true), 1);
        due("12: not odd", r.lift(0, 0, false), 22);
        due("12: y 0 is not odd", r.lift(0, 4, false), 65536);
        due("12: y 0", r.lift(0, 4, true), NONE);
        due("12: no such x", r.lift(0, 2, true), NONE);
        due("12: x below 0", r.lift(0, -1, true), BAD);
        due("12: x is p", r.lift(0, 23, false), BAD);
        due("13: near 0", r.near(0, 0), 1);
        due("13: near 2", r.near(0, 2), 49162);
        due("13: near 4", r.near(0, 4), 65536);
        due("13: round the end", r.near(0, 20), 1);
        due("13: below 0", r.near(0, -3), 1);
        due("13: -4 is 19", r.near(0, -4), 311301);
        due("13: p + 2", r.near(0, 25), 49162);
        due("13: the greatest int", r.near(0, Integer.MAX_VALUE), r.near(0, Integer.MAX_VALUE % 23));
        due("14: 0", r.nth(0, 0), INFINITY);
        due("14: 1", r.nth(0, 1), 1);
        due("14: 2", r.nth(0, 2), 22);
        due("14: 7", r.nth(0, 7), 65536);
        due("14: 8", r.nth(0, 8), 81924);
        due("14: the last", r.nth(0, 27), 311314);
        due("14: beyond", r.nth(0, 28), NONE);
        due("14: far beyond", r.nth(0, Integer.MAX_VALUE), NONE);
        for (int k : new int[] {-1, -2, -27, -28, Integer.MIN_VALUE}) {
            due("14: below 0: " + k, r.nth(0, k), NONE);
        }
        due("14: below 0, as the issue has it", with(7, 0, 1).nth(0, -1), NONE);
        due("15: INFINITY", r.rank(0, INFINITY), 0);
        due("15: 1", r.rank(0, 1), 1);
        due("15: y 0", r.rank(0, 65536), 7);
        due("15: the last", r.rank(0, 311314), 27);
        for (int s : new int[] {-2, -16384, 0, 2, 24, 16384, 311313, 23 * 16384 + 1, 16384 * 10006 + 10006,
            Integer.MAX_VALUE, Integer.MIN_VALUE}) {
            due("15: no POINT " + s, r.rank(0, s), BAD);
        }
        for (int c : NO_CURVES) {
            due("11: no curve " + c, r.point(c, 0, 1), BAD);
            due("12: no curve " + c, r.lift(c, 0, true), BAD);
            due("13: no curve " + c, r.near(c, 0), BAD);
            due("14: no curve " + c, r.nth(c, 0), BAD);
            due("14: below 0 of no curve " + c, r.nth(c, -1), BAD);
            due("15: no curve " + c, r.rank(c, INFINITY), BAD);
        }
    }

    private static void sums() {
        PointRings r = with(23, 1, 1);
        int[] multiples = {-1, 1, 98323, 49165, 213008, 294915, 114699, 180227, 81939, 311314, 196612, 16400, 278548,
            147472, 65536, 147463, 278531, 16391, 196627, 311301, 81924, 180244, 114700, 294932, 212999, 49162, 98308, 22};
        for (int i = 0; i < 28; i++) {
            due("18: " + i + " times", r.times(0, 1, i), multiples[i]);
            due("18: " + i + " times the other way", r.times(0, 1, -i), multiples[(28 - i) % 28]);
            due("17: negative of " + i, r.negative(0, multiples[i]), multiples[(28 - i) % 28]);
            for (int j = 0; j < 28; j++) {
                due("16: " + i + " and " + j, r.add(0, multiples[i], multiples[j]), multiples[(i + j) % 28]);
            }
        }
        due("18: the greatest k", r.times(0, 1, Long.MAX_VALUE), multiples[(int) (Long.MAX_VALUE % 28)]);
        due("18: the least k", r.times(0, 1, Long.MIN_VALUE), multiples[(int) Math.floorMod(Long.MIN_VALUE, 28L)]);
        due("18: of INFINITY", r.times(0, INFINITY, 5), INFINITY);
        due("17: of INFINITY", r.negative(0, INFINITY), INFINITY);
        due("19: 2 of 0", r.alone(0, 0, 2), 6);
        due("19: -2 of 0", r.alone(0, 0, -2), 6);
        due("19: 28 of 0", r.alone(0, 0, 28), NONE);
        due("19: 0 of 0", r.alone(0, 0, 0), NONE);
        due("19: 2 of y 0", r.alone(0, 4, 2), NONE);
        due("19: 3 of y 0", r.alone(0, 4, 3), 4);
        due("19: by the twist, once", r.alone(0, 2, 1), 2);
        // the x of twice a POINT is ((x^2 - a)^2 - 8 b x) / (4 (x^3 + a x + b)): -7 / 44, be there a y or not
        due("19: by the twist, twice", r.alone(0, 2, 2), 16 * r.inverse(0, 44) % 23);
        due("19: x below 0", r.alone(0, -1, 1), BAD);
        due("19: x is p", r.alone(0, 23, 1), BAD);
        due("16: the first is no POINT", r.add(0, 2, 1), BAD);
        due("16: the second is no POINT", r.add(0, 1, 2), BAD);
        due("16: no POINT and INFINITY", r.add(0, INFINITY, 2), BAD);
        due("17: no POINT", r.negative(0, 2), BAD);
        due("18: no POINT", r.times(0, 2, 0), BAD);
        for (int c : NO_CURVES) {
            due("16: no curve " + c, r.add(c, INFINITY, INFINITY), BAD);
            due("17: no curve " + c, r.negative(c, INFINITY), BAD);
            due("18: no curve " + c, r.times(c, INFINITY, 1), BAD);
            due("19: no curve " + c, r.alone(c, 0, 1), BAD);
        }
    }

    private static void counts() {
        PointRings r = with(97, 2, 3);
        due("20: count", r.count(0), 100);
        due("20: of 5, 1, 1", with(5, 1, 1).count(0), 9);
        long[] over = {100, 9600, 912100, 88512000};
        for (int k = 1; k <= 4; k++) {
            due("21: over " + k, r.countOver(0, k), over[k - 1]);
        }
        for (int k : new int[] {0, 5, -1, Integer.MIN_VALUE, Integer.MAX_VALUE}) {
            due("21: over " + k, r.countOver(0, k), BAD);
        }
        // TRACE 0: 1 + p^3, (1 - p^2)^2
        due("21: supersingular, 3", with(10007, 1, 0).countOver(0, 3), 10007L * 10007 * 10007 + 1);
        due("21: supersingular, 4", with(10007, 1, 0).countOver(0, 4), (10007L * 10007 - 1) * (10007L * 10007 - 1));
        due("22: the least", r.bound(0, 0), 79);
        due("22: the greatest", r.bound(0, 1), 117);
        due("22: of 5", with(5, 1, 1).bound(0, 0), 2);
        due("22: of 5", with(5, 1, 1).bound(0, 1), 10);
        due("22: of 10007", with(10007, 1, 1).bound(0, 0), 9808);
        due("22: what is 2", r.bound(0, 2), BAD);
        due("22: what is -1", r.bound(0, -1), BAD);
        due("23: of the curve", r.proof(0, 0), 10);
        due("23: side 2", r.proof(0, 2), BAD);
        due("23: side -1", r.proof(0, -1), BAD);
        due("23: the first of ORDER 6", with(5, 0, 1).proof(0, 0), 32770);
        due("23: rings of 94 and 94", with(8837, 1, 0).proof(0, 0), NONE);
        proofOfTheTwist();
        due("24: no", r.supersingular(0), 0);
        due("24: yes", with(10007, 1, 0).supersingular(0), 1);
        due("24: yes", with(5, 0, 1).supersingular(0), 1);
        for (int c : NO_CURVES) {
            due("20: no curve " + c, r.count(c), BAD);
            due("21: no curve " + c, r.countOver(c, 1), BAD);
            due("22: no curve " + c, r.bound(c, 0), BAD);
            due("23: no curve " + c, r.proof(c, 0), BAD);
            due("24: no curve " + c, r.supersingular(c), BAD);
        }
    }

    /** Side 1 tells what side 0 tells of the twist, and makes no curve. */
    private static void proofOfTheTwist() {
        for (int p : new int[] {5, 23, 97, 229, 8837}) {
            PointRings r = with(p, 1, 0);
            int told = r.proof(0, 1);
            due("23: no new curve", r.curves(), 1);
            r.twist(0);
            due("23: of the twist, " + p, told, r.proof(1, 0));
            due("23: of the twist's twist, " + p, r.proof(1, 1), new Naive(p, r.told(1, 1), r.told(1, 2)).twist().proof());
        }
    }

    private static void orders() {
        PointRings r = with(23, 1, 1);
        due("25: INFINITY", r.order(0, INFINITY), 1);
        due("25: y 0", r.order(0, 65536), 2);
        due("25: 4", r.order(0, 180227), 4);
        due("25: 7", r.order(0, 81924), 7);
        due("25: 28", r.order(0, 1), 28);
        due("25: no POINT", r.order(0, 2), BAD);
        int[] many = {1, 1, 0, 2, 0, 0, 6, 0, 0, 0, 0, 0, 0, 6};
        for (int n = 1; n <= many.length; n++) {
            due("26: of order " + n, r.ofOrder(0, n), many[n - 1]);
        }
        due("26: of order 28", r.ofOrder(0, 28), 12);
        due("26: of order 56", r.ofOrder(0, 56), 0);
        due("26: of the greatest int", r.ofOrder(0, Integer.MAX_VALUE), 0);
        due("27: 1", r.torsion(0, 1), 1);
        due("27: 6", r.torsion(0, 6), 2);
        due("27: 28", r.torsion(0, 28), 28);
        due("27: 56", r.torsion(0, 56), 28);
        due("27: the greatest int", r.torsion(0, Integer.MAX_VALUE), 1);
        PointRings two = with(7, 0, 1);
        due("26: two rings, 2", two.ofOrder(0, 2), 3);
        due("26: two rings, 6", two.ofOrder(0, 6), 6);
        due("26: two rings, 12", two.ofOrder(0, 12), 0);
        due("27: two rings, 2", two.torsion(0, 2), 4);
        due("27: two rings, 6", two.torsion(0, 6), 12);
        for (int n : new int[] {0, -1, Integer.MIN_VALUE}) {
            due("26: of order " + n, r.ofOrder(0, n), BAD);
            due("27: " + n, r.torsion(0, n), BAD);
        }
        for (int c : NO_CURVES) {
            due("25: no curve " + c, r.order(c, INFINITY), BAD);
            due("26: no curve " + c, r.ofOrder(c, 1), BAD);
            due("27: no curve " + c, r.torsion(c, 1), BAD);
        }
    }

    private static void makers() {
        int[] cyclic = {1, 28, 1, INFINITY};
        int[] two = {2, 6, 16387, 81920};
        int[] fours = {2, 4, 16386, 0};
        for (int what = 0; what < 4; what++) {
            due("28: one ring, " + what, with(23, 1, 1).made(0, what), cyclic[what]);
            // 3 TIMES (1, 3) is (3, 0), the least POINT of ORDER 2, so the next one makes the pair
            due("28: two rings, " + what, with(7, 0, 1).made(0, what), two[what]);
            // 2 TIMES (1, 2) is not (0, 0), so the least POINT of ORDER 2 will do
            due("28: rings of 2 and 4, " + what, with(7, 3, 0).made(0, what), fours[what]);
        }
        PointRings r = with(97, 2, 3);
        due("28: of 97", r.made(0, 2), 10);
        due("28: the second of 97", r.made(0, 3), 1114112);
        due("28: rings of 94 and 94", with(8837, 1, 0).made(0, 0), 94);
        for (int what : new int[] {-1, 4, Integer.MIN_VALUE, Integer.MAX_VALUE}) {
            due("28: what " + what, r.made(0, what), BAD);
        }
        for (int c : NO_CURVES) {
            due("28: no curve " + c, r.made(c, 0), BAD);
        }
    }

    private static void halvesAndLogarithms() {
        PointRings r = with(97, 2, 3);
        due("29: of INFINITY", r.halves(0, INFINITY), 4);
        due("29: of 80, 10", r.halves(0, 1310730), 4);
        due("29: of 0, 10", r.halves(0, 10), 0);
        due("29: of y 0", r.halves(0, 491520), 0);
        due("29: of y 0 with halves", with(23, 1, 1).halves(0, 65536), 2);
        due("29: no POINT", r.halves(0, 11), BAD);
        int[] halves = {49158, 966688, 1196115, 1441848};
        int[] ofInfinity = {INFINITY, 491520, 1114112, 1572864};
        for (int i = 0; i < 4; i++) {
            due("30: half " + i, r.half(0, 1310730, i), halves[i]);
            due("30: half of INFINITY " + i, r.half(0, INFINITY, i), ofInfinity[i]);
        }
        due("30: 4", r.half(0, 1310730, 4), NONE);
        due("30: the greatest int", r.half(0, 1310730, Integer.MAX_VALUE), NONE);
        due("30: of one without", r.half(0, 10, 0), NONE);
        for (int i : new int[] {-1, -2, -4, Integer.MIN_VALUE}) {
            due("30: below 0: " + i, r.half(0, 1310730, i), NONE);
            due("30: of INFINITY below 0: " + i, r.half(0, INFINITY, i), NONE);
            due("30: of one without below 0: " + i, r.half(0, 10, i), NONE);
            due("30: of no POINT below 0: " + i, r.half(0, 11, i), BAD);
        }
        due("30: below 0, as the issue has it", with(73, 0, 1).half(0, 1, -1), NONE);
        due("30: no POINT", r.half(0, 11, 0), BAD);
        due("30: both y", with(23, 1, 1).half(0, 65536, 0), 180227);
        due("30: both y", with(23, 1, 1).half(0, 65536, 1), 180244);
        PointRings s = with(23, 1, 1);
        for (int k = 0; k < 28; k++) {
            due("31: " + k, s.log(0, 1, s.times(0, 1, k)), k);
        }
        due("31: NONE", s.log(0, 81924, 65536), NONE);
        due("31: of INFINITY", s.log(0, INFINITY, 1), NONE);
        due("31: INFINITY of INFINITY", s.log(0, INFINITY, INFINITY), 0);
        due("31: the first is no POINT", s.log(0, 2, 1), BAD);
        due("31: the second is no POINT", s.log(0, 1, 2), BAD);
        due("32: of 5", r.embedding(0, 5), 4);
        due("32: of 2", r.embedding(0, 2), 1);
        due("32: of 96", r.embedding(0, 96), 1);
        due("32: of p", r.embedding(0, 97), NONE);
        due("32: of 2 p", r.embedding(0, 194), NONE);
        due("32: of 20000", r.embedding(0, 20000), new Naive(97, 2, 3).embedding(20000));
        for (int n : new int[] {1, 0, -1, 20001, Integer.MIN_VALUE, Integer.MAX_VALUE}) {
            due("32: of " + n, r.embedding(0, n), BAD);
        }
        for (int c : NO_CURVES) {
            due("29: no curve " + c, r.halves(c, INFINITY), BAD);
            due("30: no curve " + c, r.half(c, INFINITY, 0), BAD);
            due("30: below 0 of no curve " + c, r.half(c, INFINITY, -1), BAD);
            due("31: no curve " + c, r.log(c, INFINITY, INFINITY), BAD);
            due("32: no curve " + c, r.embedding(c, 2), BAD);
        }
    }

    private static void kernels() {
        PointRings r = with(23, 1, 1);
        int[] makers = {INFINITY, 65536, 180227, 81924, 1};
        int[] orders = {1, 2, 4, 7, 28};
        int[][] made = {{1, 1}, {9, 9}, {3, 5}, {17, 21}, {1, 1}};
        int[] points = {INFINITY, 1, 16391, 65536, 81924};
        int[][] images = {{-1, 1, 16391, 65536, 81924}, {-1, 81928, 20, -1, 131087}, {-1, 294928, 49160, -1, 294919},
            {-1, 229382, 229382, 114688, -1}, {-1, -1, -1, -1, -1}};
        for (int i = 0; i < makers.length; i++) {
            due("33: quotient " + makers[i], r.quotient(0, makers[i]), i + 1);
            due("33: its a", r.told(i + 1, 1), made[i][0]);
            due("33: its b", r.told(i + 1, 2), made[i][1]);
            due("35: from", r.kernel(i + 1, 0), 0);
            due("35: of", r.kernel(i + 1, 1), makers[i]);
            due("35: order", r.kernel(i + 1, 2), orders[i]);
            for (int j = 0; j < points.length; j++) {
                due("34: image of " + points[j] + " by " + makers[i], r.image(i + 1, points[j]), images[i][j]);
            }
        }
        due("34: no POINT", r.image(2, 2), BAD);
        due("34: a POINT of the new curve alone", r.image(2, 81928), BAD);
        due("34: not made so", r.image(0, 1), BAD);
        due("35: not made so", r.kernel(0, 0), BAD);
        due("35: what 3", r.kernel(1, 3), BAD);
        due("35: what -1", r.kernel(1, -1), BAD);
        due("33: no POINT", r.quotient(0, 2), BAD);
        due("33: of a quotient", r.quotient(2, 81928), 6);
        due("35: from a quotient", r.kernel(6, 0), 2);
        due("4: twist of a quotient", r.twist(6), 7);
        due("35: a twist is not made so", r.kernel(7, 0), BAD);
        due("41: drop", r.drop() + r.drop(), 13);
        due("2: a curve in the place of a quotient", r.curve(23, 1, 1), 6);
        due("35: is not made so", r.kernel(6, 0), BAD);
        kernelEdges();
        for (int c : NO_CURVES) {
            due("33: no curve " + c, with(5, 1, 1).quotient(c, INFINITY), BAD);
            due("34: no curve " + c, with(5, 1, 1).image(c, INFINITY), BAD);
            due("35: no curve " + c, with(5, 1, 1).kernel(c, 0), BAD);
        }
    }

    private static void kernelEdges() {
        PointRings most = with(397, 1, 62);
        due("33: ORDER 400", most.order(0, 16392), 400);
        due("33: ORDER 400 is taken", most.quotient(0, 16392), 1);
        due("35: ORDER 400", most.kernel(1, 2), 400);
        due("33: N stays", most.count(1), 400);
        PointRings over = with(397, 1, 27);
        due("33: ORDER 401", over.order(0, 60), 401);
        due("33: ORDER 401 is not", over.quotient(0, 60), NO);
        due("33: NO makes none", over.curves(), 1);
        for (int i = 1; i < 24; i++) {
            over.curve(23, 1, 1);
        }
        due("33: NO is ahead of FULL", over.quotient(0, 60), NO);
        due("33: FULL", over.quotient(0, INFINITY), FULL);
        due("33: BAD is ahead of FULL", over.quotient(0, 0), BAD);
        due("33: no new ones", over.curves(), 24);
    }

    private static void signatures() {
        PointRings r = with(7, 0, 3);
        int g = 16386;
        int[][] signed = {{1, 1, 0, 1, 1, 16386}, {5, 7, 3, 5, 4, 49155}, {3, 4, Integer.MAX_VALUE, 4, 12, 32770},
            {2, 6, 9, 5, 1, 98307}};
        for (int[] s : signed) {
            due("36: r", r.sign(0, g, s[0], s[1], s[2], 0), s[3]);
            due("36: s", r.sign(0, g, s[0], s[1], s[2], 1), s[4]);
            due("37: good", r.good(0, g, s[5], s[2], s[3], s[4]), 1);
            due("37: not of another s", r.good(0, g, s[5], s[2], s[3], s[4] == 12 ? 11 : s[4] + 1), 0);
        }
        due("36: s is 0, r asked", r.sign(0, g, 12, 12, 1, 0), NO);
        due("36: s is 0, s asked", r.sign(0, g, 12, 12, 1, 1), NO);
        // (0, 1) of y^2 = x^3 + 1 is of ORDER 3
        due("36: r is 0", with(5, 0, 1).sign(0, 1, 1, 1, 1, 0), NO);
        due("36: r is 0, s asked", with(5, 0, 1).sign(0, 1, 1, 1, 1, 1), NO);
        for (int wrong : new int[] {0, 13, -1, Integer.MIN_VALUE, Integer.MAX_VALUE}) {
            due("36: d " + wrong, r.sign(0, g, wrong, 1, 1, 0), BAD);
            due("36: k " + wrong, r.sign(0, g, 1, wrong, 1, 0), BAD);
            due("37: r " + wrong, r.good(0, g, g, 0, wrong, 1), 0);
            due("37: s " + wrong, r.good(0, g, g, 0, 1, wrong), 0);
        }
        due("36: h below 0", r.sign(0, g, 1, 1, -1, 0), BAD);
        due("36: what 2", r.sign(0, g, 1, 1, 0, 2), BAD);
        due("36: what -1", r.sign(0, g, 1, 1, 0, -1), BAD);
        due("36: BAD is ahead of NO", r.sign(0, g, 12, 12, 1, 2), BAD);
        due("36: INFINITY", r.sign(0, INFINITY, 1, 1, 0, 0), BAD);
        due("36: no POINT", r.sign(0, 1, 1, 1, 0, 0), BAD);
        due("36: ORDER 28", with(23, 1, 1).sign(0, 1, 1, 1, 0, 0), BAD);
        due("36: ORDER 4", with(23, 1, 1).sign(0, 180227, 1, 1, 0, 0), BAD);
        due("37: h below 0", r.good(0, g, g, -1, 1, 1), BAD);
        due("37: INFINITY as G", r.good(0, INFINITY, g, 0, 1, 1), BAD);
        due("37: INFINITY as Q", r.good(0, g, INFINITY, 1, 1, 1), 1);
        due("37: it comes to INFINITY", r.good(0, g, INFINITY, 0, 1, 1), 0);
        due("37: G is no POINT", r.good(0, 1, g, 0, 1, 1), BAD);
        due("37: Q is no POINT", r.good(0, g, 1, 0, 1, 1), BAD);
        due("37: Q is no POINT, r is 0", r.good(0, g, 1, 0, 0, 1), BAD);
        due("37: ORDER 4", with(23, 1, 1).good(0, 180227, 1, 0, 1, 1), BAD);
        for (int c : NO_CURVES) {
            due("36: no curve " + c, r.sign(c, g, 1, 1, 0, 0), BAD);
            due("37: no curve " + c, r.good(c, g, g, 0, 1, 1), BAD);
        }
    }

    private static void allCurves() {
        PointRings r = new PointRings();
        due("38: census", r.census(5, 6), 4);
        due("39: kinds", r.kinds(5, 6), 1);
        int pairs = 0;
        for (int n = 0; n < 100; n++) {
            pairs += r.census(61, n);
        }
        due("38: all pairs of 61", pairs, 61 * 60);
        due("38: out of THE BOUNDS", r.census(61, 46), 0);
        due("38: n 0", r.census(61, 0), 0);
        due("38: n below 0", r.census(61, -1), 0);
        due("39: n below 0", r.kinds(61, Integer.MIN_VALUE), 0);
        for (int p : new int[] {-5, 0, 1, 2, 3, 4, 9, 60, 62, 67, 10007, Integer.MIN_VALUE, Integer.MAX_VALUE}) {
            due("38: of " + p, r.census(p, 6), BAD);
            due("39: of " + p, r.kinds(p, 6), BAD);
        }
        due("38: makes no curves", r.curves(), 0);
        PointRings s = full();
        due("40: curves", s.curves(), 24);
        for (int i = 23; i >= 0; i--) {
            due("41: drop", s.drop(), i);
            due("40: curves", s.curves(), i);
            due("41: it is gone", s.told(i, 0), BAD);
        }
        due("41: none left", s.drop(), NONE);
        due("40: none", s.curves(), 0);
    }
}
