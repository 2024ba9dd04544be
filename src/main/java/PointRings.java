/**
 * Curves y^2 = x^3 + a x + b over the numbers modulo a prime, as ../shared/DOC.md promises them.
 * A POINT is held as it is told: 16384 x + y, or -1 for INFINITY, so that sums make no objects.
 */
public final class PointRings {
    public static final int NONE = -1, BAD = -2, NO = -3, FULL = -4;

    private static final int INFINITY = -1;
    private static final int MOST_CURVES = 24;
    private static final int LEAST_PRIME = 5;
    private static final int MOST_PRIME = 10007;
    private static final int MOST_CENSUS_PRIME = 61;
    private static final int MOST_KERNEL = 400;
    private static final int MOST_EMBEDDING = 20000;
    private static final int MOST_DEGREE = 4;
    private static final int X_SHIFT = 14;
    private static final int Y_MASK = (1 << X_SHIFT) - 1;
    /** Short steps of a logarithm: with them both ways and as many long ones, every ORDER is reached. */
    private static final int MOST_STEPS = 127;
    /** An int has at most 31 prime factors; no walk over factors can be longer. */
    private static final int MOST_FACTORS = 32;

    private final Curve[] held;
    private int size;
    private final Survey survey;

    public PointRings() {
        held = new Curve[MOST_CURVES];
        size = 0;
        survey = new Survey();
    }

    public int curve(int p, int a, int b) {
        if (!Whole.isFieldPrime(p) || !Whole.isBelow(a, p) || !Whole.isBelow(b, p)) {
            return BAD;
        }
        if (Whole.cubicMark(a, b, p) == 0) {
            return NO;
        }
        return keep(new Curve(p, a, b));
    }

    public int told(int c, int what) {
        Curve e = at(c);
        if (e == null) {
            return BAD;
        }
        switch (what) {
            case 0: return e.p;
            case 1: return e.a;
            case 2: return e.b;
            case 3: return e.invariant();
            case 4: return Math.floorMod(-16 * Whole.cubicMark(e.a, e.b, e.p), e.p);
            case 5: return Whole.leastNoSquare(e.p);
            case 6: return e.selfMaps();
            default: return BAD;
        }
    }

    public int twist(int c) {
        Curve e = at(c);
        return e == null ? BAD : keep(e.twisted());
    }

    public int map(int c, int d) {
        Curve e = at(c);
        Curve f = at(d);
        if (e == null || f == null) {
            return BAD;
        }
        return e.leastMapTo(f);
    }

    public int mapped(int c, int u, int point) {
        Curve e = at(c);
        if (e == null || u == 0 || !Whole.isBelow(u, e.p) || !e.holds(point)) {
            return BAD;
        }
        if (point == INFINITY) {
            return INFINITY;
        }
        int square = u * u % e.p;
        int cube = square * u % e.p;
        return pair(xOf(point) * square % e.p, yOf(point) * cube % e.p);
    }

    public int root(int c, int v) {
        Curve e = at(c);
        return e == null ? BAD : survey.leastRoot(Math.floorMod(v, e.p), e.p);
    }

    public int inverse(int c, int v) {
        Curve e = at(c);
        if (e == null) {
            return BAD;
        }
        int reduced = Math.floorMod(v, e.p);
        return reduced == 0 ? NONE : Whole.inverted(reduced, e.p);
    }

    public int power(int c, int v, long e) {
        Curve of = at(c);
        if (of == null || e < 0) {
            return BAD;
        }
        return Whole.raised(Math.floorMod(v, of.p), e, of.p);
    }

    public int generator(int c) {
        Curve e = at(c);
        return e == null ? BAD : Whole.leastGenerator(e.p);
    }

    public int point(int c, int x, int y) {
        Curve e = at(c);
        if (e == null || !Whole.isBelow(x, e.p) || !Whole.isBelow(y, e.p)) {
            return BAD;
        }
        return y * y % e.p == e.cubic(x) ? pair(x, y) : NONE;
    }

    public int lift(int c, int x, boolean odd) {
        Curve e = at(c);
        if (e == null || !Whole.isBelow(x, e.p)) {
            return BAD;
        }
        int lesser = survey.lesserAt(e, x);
        if (lesser == INFINITY || (yOf(lesser) == 0 && odd)) {
            return NONE;
        }
        // p is odd, so of y and p - y just one is odd
        return (yOf(lesser) % 2 == 1) == odd ? lesser : e.opposite(lesser);
    }

    public int near(int c, int h) {
        Curve e = at(c);
        if (e == null) {
            return BAD;
        }
        int start = Math.floorMod(h, e.p);
        for (int i = 0; i < e.p; i++) {
            int found = survey.lesserAt(e, (start + i) % e.p);
            if (found != INFINITY) {
                return found;
            }
        }
        return NONE;
    }

    public int nth(int c, int k) {
        Curve e = at(c);
        if (e == null) {
            return BAD;
        }
        return k == 0 ? INFINITY : survey.pointNumber(e, k);
    }

    public int rank(int c, int point) {
        Curve e = at(c);
        if (e == null || !e.holds(point)) {
            return BAD;
        }
        return point == INFINITY ? 0 : survey.pointsAhead(e, point);
    }

    public int add(int c, int p, int q) {
        Curve e = at(c);
        if (e == null || !e.holds(p) || !e.holds(q)) {
            return BAD;
        }
        return e.sum(p, q);
    }

    public int negative(int c, int p) {
        Curve e = at(c);
        return e == null || !e.holds(p) ? BAD : e.opposite(p);
    }

    public int times(int c, int p, long k) {
        Curve e = at(c);
        return e == null || !e.holds(p) ? BAD : e.multiple(p, k);
    }

    public int alone(int c, int x, long k) {
        Curve e = at(c);
        if (e == null || !Whole.isBelow(x, e.p)) {
            return BAD;
        }
        int start = survey.lesserAt(e, x);
        if (start != INFINITY) {
            int end = e.multiple(start, k);
            return end == INFINITY ? NONE : xOf(end);
        }
        int d = Whole.leastNoSquare(e.p);
        Curve other = e.twisted();
        int end = other.multiple(survey.lesserAt(other, d * x % e.p), k);
        return end == INFINITY ? NONE : xOf(end) * Whole.inverted(d, e.p) % e.p;
    }

    public int count(int c) {
        Curve e = at(c);
        return e == null ? BAD : survey.sizeOf(e);
    }

    public long countOver(int c, int k) {
        Curve e = at(c);
        if (e == null || k < 1 || k > MOST_DEGREE) {
            return BAD;
        }
        long trace = e.p + 1 - survey.sizeOf(e);
        long before = 2;
        long latest = trace;
        long field = e.p;
        for (int i = 1; i < k; i++) {
            long next = trace * latest - e.p * before;
            before = latest;
            latest = next;
            field *= e.p;
        }
        return field + 1 - latest;
    }

    public int bound(int c, int what) {
        Curve e = at(c);
        if (e == null || what < 0 || what > 1) {
            return BAD;
        }
        int reach = Whole.reachOf(e.p);
        return what == 0 ? e.p + 1 - reach : e.p + 1 + reach;
    }

    public int proof(int c, int side) {
        Curve e = at(c);
        if (e == null || side < 0 || side > 1) {
            return BAD;
        }
        Curve proved = e;
        if (side == 1) {
            proved = e.twisted();
            proved.points = 2 * e.p + 2 - survey.sizeOf(e);
        }
        survey.settle(proved);
        return survey.leastProver(proved);
    }

    public int supersingular(int c) {
        Curve e = at(c);
        if (e == null) {
            return BAD;
        }
        return (e.p + 1 - survey.sizeOf(e)) % e.p == 0 ? 1 : 0;
    }

    public int order(int c, int p) {
        Curve e = at(c);
        if (e == null || !e.holds(p)) {
            return BAD;
        }
        return e.orderWithin(p, survey.sizeOf(e));
    }

    public int ofOrder(int c, int n) {
        Curve e = at(c);
        if (e == null || n < 1) {
            return BAD;
        }
        survey.settle(e);
        return e.manyOfOrder(n);
    }

    public int torsion(int c, int n) {
        Curve e = at(c);
        if (e == null || n < 1) {
            return BAD;
        }
        survey.settle(e);
        return e.manyKilledBy(n);
    }

    public int made(int c, int what) {
        Curve e = at(c);
        if (e == null || what < 0 || what > 3) {
            return BAD;
        }
        survey.settle(e);
        if (what < 2) {
            return what == 0 ? e.inner : e.outer;
        }
        survey.findMakers(e);
        return what == 2 ? e.first : e.second;
    }

    public int halves(int c, int p) {
        Curve e = at(c);
        return e == null || !e.holds(p) ? BAD : survey.findHalves(e, p);
    }

    public int half(int c, int p, int i) {
        Curve e = at(c);
        if (e == null || !e.holds(p)) {
            return BAD;
        }
        return i >= 0 && i < survey.findHalves(e, p) ? survey.foundHalf(i) : NONE;
    }

    public int log(int c, int p, int q) {
        Curve e = at(c);
        if (e == null || !e.holds(p) || !e.holds(q)) {
            return BAD;
        }
        return survey.logarithm(e, p, q);
    }

    public int embedding(int c, int n) {
        Curve e = at(c);
        if (e == null || n < 2 || n > MOST_EMBEDDING) {
            return BAD;
        }
        return Whole.orderModulo(e.p % n, n);
    }

    public int quotient(int c, int p) {
        Curve e = at(c);
        if (e == null || !e.holds(p)) {
            return BAD;
        }
        Curve made = e.dividedBy(p, c);
        return made == null ? NO : keep(made);
    }

    public int image(int d, int point) {
        Curve e = madeByKernel(d);
        Curve from = e == null ? null : at(e.from);
        if (from == null || !from.holds(point)) {
            return BAD;
        }
        return from.imageOf(point, e.kernelPoint, e.kernelOrder);
    }

    public int kernel(int d, int what) {
        Curve e = madeByKernel(d);
        if (e == null) {
            return BAD;
        }
        switch (what) {
            case 0: return e.from;
            case 1: return e.kernelPoint;
            case 2: return e.kernelOrder;
            default: return BAD;
        }
    }

    public int sign(int c, int g, int d, int k, int h, int what) {
        Curve e = at(c);
        int n = primeOrder(e, g);
        if (n == 0 || d < 1 || d >= n || k < 1 || k >= n || h < 0 || what < 0 || what > 1) {
            return BAD;
        }
        int once = e.multiple(g, k);
        int r = once == INFINITY ? 0 : xOf(once) % n;
        int s = (h % n + r * d) % n * Whole.inverted(k, n) % n;
        if (r == 0 || s == 0) {
            return NO;
        }
        return what == 0 ? r : s;
    }

    public int good(int c, int g, int q, int h, int r, int s) {
        Curve e = at(c);
        int n = primeOrder(e, g);
        if (n == 0 || !e.holds(q) || h < 0) {
            return BAD;
        }
        if (r < 1 || r >= n || s < 1 || s >= n) {
            return 0;
        }
        int over = Whole.inverted(s, n);
        int met = e.sum(e.multiple(g, h % n * over % n), e.multiple(q, r * over % n));
        return met != INFINITY && xOf(met) % n == r ? 1 : 0;
    }

    public int census(int p, int n) {
        return p > MOST_CENSUS_PRIME || !Whole.isFieldPrime(p) ? BAD : survey.pairsWith(p, n);
    }

    public int kinds(int p, int n) {
        return p > MOST_CENSUS_PRIME || !Whole.isFieldPrime(p) ? BAD : survey.kindsWith(p, n);
    }

    public int curves() {
        return size;
    }

    public int drop() {
        if (size < 1) {
            return NONE;
        }
        size--;
        held[size] = null;
        return size;
    }

    private Curve at(int c) {
        return c >= 0 && c < size && c < held.length ? held[c] : null;
    }

    private Curve madeByKernel(int d) {
        Curve e = at(d);
        return e == null || e.kernelOrder == 0 ? null : e;
    }

    private int keep(Curve e) {
        if (size >= held.length) {
            return FULL;
        }
        held[size] = e;
        size++;
        return size - 1;
    }

    /** The ORDER of a POINT if it is a prime, else 0 (also where there is no such curve or POINT). */
    private int primeOrder(Curve e, int g) {
        if (e == null || !e.holds(g)) {
            return 0;
        }
        int n = e.orderWithin(g, survey.sizeOf(e));
        return Whole.isPrime(n) ? n : 0;
    }

    private static int pair(int x, int y) {
        return (x << X_SHIFT) + y;
    }

    private static int xOf(int point) {
        return point >> X_SHIFT;
    }

    private static int yOf(int point) {
        return point & Y_MASK;
    }

    /** Whole numbers, and numbers modulo one; every modulus here is at most 20000, so products fit an int. */
    private static final class Whole {
        static boolean isBelow(int v, int p) {
            return v >= 0 && v < p;
        }

        static boolean isFieldPrime(int p) {
            return p >= LEAST_PRIME && p <= MOST_PRIME && isPrime(p);
        }

        static boolean isPrime(int n) {
            return n >= 2 && leastFactor(n) == n;
        }

        /** The least prime that divides n, n being 2 or more. */
        static int leastFactor(int n) {
            for (int q = 2; q <= n / q; q++) {
                if (n % q == 0) {
                    return q;
                }
            }
            return n;
        }

        /** The greatest power of q that divides n. */
        static int partOf(int n, int q) {
            int part = 1;
            int rest = n;
            for (int turn = 0; turn < MOST_FACTORS && rest > 1 && q > 1 && rest % q == 0; turn++) {
                rest /= q;
                part *= q;
            }
            return part;
        }

        static int commonPart(int n, int m) {
            int big = n;
            int small = m;
            // Euclid halves the pair in two turns, so 64 are enough for ints
            for (int turn = 0; turn < 64 && small != 0; turn++) {
                int rest = big % small;
                big = small;
                small = rest;
            }
            return big;
        }

        /** 1 over v modulo n, for v of 1 to n - 1 without a part in common with n. */
        static int inverted(int v, int n) {
            int big = n;
            int small = v;
            int before = 0;
            int latest = 1;
            for (int turn = 0; turn < 64 && small > 1; turn++) {
                int part = big / small;
                int rest = big - part * small;
                int next = before - part * latest;
                big = small;
                small = rest;
                before = latest;
                latest = next;
            }
            return latest < 0 ? latest + n : latest;
        }

        static int raised(int v, long e, int p) {
            int result = 1;
            int square = v;
            long rest = e;
            for (int bit = 0; bit < 64 && rest != 0; bit++) {
                if ((rest & 1) == 1) {
                    result = result * square % p;
                }
                square = square * square % p;
                rest >>>= 1;
            }
            return result;
        }

        /** How far THE BOUNDS are from p + 1: the greatest whole number of which the square is at most 4 p. */
        static int reachOf(int p) {
            int reach = 0;
            for (; reach < p; reach++) {
                if ((reach + 1) * (reach + 1) > 4 * p) {
                    break;
                }
            }
            return reach;
        }

        /** 4 a^3 + 27 b^2 modulo p. */
        static int cubicMark(int a, int b, int p) {
            return (4 * (a * a % p) * a % p + 27 * (b * b % p)) % p;
        }

        static int leastNoSquare(int p) {
            int d = 2;
            for (; d < p - 1; d++) {
                if (raised(d, (p - 1) / 2, p) != 1) {
                    break;
                }
            }
            return d;
        }

        static int leastGenerator(int p) {
            int g = 2;
            for (; g < p - 1; g++) {
                if (generates(g, p)) {
                    break;
                }
            }
            return g;
        }

        private static boolean generates(int g, int p) {
            int rest = p - 1;
            for (int turn = 0; turn < MOST_FACTORS && rest > 1; turn++) {
                int q = leastFactor(rest);
                if (raised(g, (p - 1) / q, p) == 1) {
                    return false;
                }
                rest /= partOf(rest, q);
            }
            return true;
        }

        /** The least k above 0 of which v to the k is 1 modulo n; NONE. */
        static int orderModulo(int v, int n) {
            if (commonPart(n, v) != 1) {
                return NONE;
            }
            int reached = v;
            for (int k = 1; k < n; k++) {
                if (reached == 1) {
                    return k;
                }
                reached = reached * v % n;
            }
            return NONE;
        }
    }

    /** One curve, how its POINTS are added, and what has been found out about it. */
    private static final class Curve {
        final int p;
        final int a;
        final int b;
        /** By which KERNEL it was made; an order of 0 says by none. */
        int from;
        int kernelPoint;
        int kernelOrder;
        /** N, or 0 while it is not counted. */
        int points;
        /** n1 and n2, or 0 while they are not found. */
        int inner;
        int outer;
        boolean makersFound;
        int first;
        int second;

        Curve(int p, int a, int b) {
            this.p = p;
            this.a = a;
            this.b = b;
            first = INFINITY;
            second = INFINITY;
        }

        int cubic(int x) {
            return ((x * x + a) % p * x + b) % p;
        }

        boolean holds(int point) {
            if (point == INFINITY) {
                return true;
            }
            int x = xOf(point);
            int y = yOf(point);
            return Whole.isBelow(x, p) && y < p && y * y % p == cubic(x);
        }

        int invariant() {
            int part = 4 * (a * a % p) * a % p;
            return 1728 % p * part % p * Whole.inverted(Whole.cubicMark(a, b, p), p) % p;
        }

        /** u^4 is 1 if a is not 0, and u^6 is 1 if b is not 0: roots of 1 in a ring of p - 1 numbers. */
        int selfMaps() {
            if (a == 0) {
                return Whole.commonPart(6, p - 1);
            }
            return b == 0 ? Whole.commonPart(4, p - 1) : 2;
        }

        Curve twisted() {
            int d = Whole.leastNoSquare(p);
            int square = d * d % p;
            return new Curve(p, a * square % p, b * (square * d % p) % p);
        }

        int leastMapTo(Curve f) {
            if (f.p != p) {
                return NONE;
            }
            for (int u = 1; u < p; u++) {
                int square = u * u % p;
                int fourth = square * square % p;
                if (a * fourth % p == f.a && b * (fourth * square % p) % p == f.b) {
                    return u;
                }
            }
            return NONE;
        }

        int opposite(int point) {
            if (point == INFINITY || yOf(point) == 0) {
                return point;
            }
            return pair(xOf(point), p - yOf(point));
        }

        int sum(int s, int t) {
            if (s == INFINITY) {
                return t;
            }
            if (t == INFINITY) {
                return s;
            }
            int x1 = xOf(s);
            int y1 = yOf(s);
            int x2 = xOf(t);
            int y2 = yOf(t);
            int rise = y2 - y1 + p;
            int run = x2 - x1;
            if (run == 0) {
                if ((y1 + y2) % p == 0) {
                    return INFINITY;
                }
                rise = 3 * x1 * x1 + a;
                run = 2 * y1 % p;
            }
            int slope = rise % p * Whole.inverted(run < 0 ? run + p : run, p) % p;
            int x3 = (slope * slope + 2 * p - x1 - x2) % p;
            int y3 = (slope * (x1 - x3 + p) + p - y1) % p;
            return pair(x3, y3);
        }

        int multiple(int point, long k) {
            int result = INFINITY;
            int doubled = k < 0 ? opposite(point) : point;
            // the least long is its own negative, but as 64 bits it reads as 2^63, which is right
            long rest = k < 0 ? -k : k;
            for (int bit = 0; bit < 64 && rest != 0 && doubled != INFINITY; bit++) {
                if ((rest & 1) == 1) {
                    result = sum(result, doubled);
                }
                rest >>>= 1;
                if (rest != 0) {
                    doubled = sum(doubled, doubled);
                }
            }
            return result;
        }

        /** The ORDER of a POINT, of which n TIMES it is known to be INFINITY. */
        int orderWithin(int point, int n) {
            int least = n;
            int rest = n;
            for (int turn = 0; turn < MOST_FACTORS && rest > 1; turn++) {
                int q = Whole.leastFactor(rest);
                rest /= q;
                if (multiple(point, least / q) == INFINITY) {
                    least /= q;
                }
            }
            return least;
        }

        /** How many POINTS n TIMES is INFINITY, once n1 and n2 are found. */
        int manyKilledBy(int n) {
            return Whole.commonPart(n, inner) * Whole.commonPart(n, outer);
        }

        /** How many POINTS have ORDER n, once n1 and n2 are found: part by part of n. */
        int manyOfOrder(int n) {
            if (n > outer) {
                return 0;
            }
            int many = 1;
            int rest = n;
            for (int turn = 0; turn < MOST_FACTORS && rest > 1; turn++) {
                int q = Whole.leastFactor(rest);
                int part = Whole.partOf(rest, q);
                rest /= part;
                many *= manyKilledBy(part) - manyKilledBy(part / q);
            }
            return many;
        }

        /** Whether just one multiple of n is within THE BOUNDS of N. */
        boolean isProvedBy(int n) {
            if (n < 1) {
                return false;
            }
            int reach = Whole.reachOf(p);
            return (p + 1 + reach) / n - (p - reach) / n == 1;
        }

        /** The curve that the KERNEL of a POINT of this one, curve c, makes; null if its ORDER is above 400. */
        Curve dividedBy(int point, int c) {
            int t = 0;
            int w = 0;
            int order = 1;
            int q = point;
            for (; order < MOST_KERNEL && q != INFINITY; order++) {
                int x = xOf(q);
                int square = x * x % p;
                t = (t + 3 * square + a) % p;
                w = (w + 5 * square * x + 3 * a * x + 2 * b) % p;
                q = sum(q, point);
            }
            if (q != INFINITY) {
                return null;
            }
            Curve made = new Curve(p, Math.floorMod(a - 5 * t, p), Math.floorMod(b - 7 * w, p));
            made.from = c;
            made.kernelPoint = point;
            made.kernelOrder = order;
            return made;
        }

        /** The IMAGE of a POINT by the KERNEL of a POINT of this curve. */
        int imageOf(int point, int kernelPoint, int kernelOrder) {
            if (point == INFINITY) {
                return INFINITY;
            }
            int x = xOf(point);
            int y = yOf(point);
            int q = kernelPoint;
            for (int i = 1; i < kernelOrder; i++) {
                int moved = sum(point, q);
                // then it is the NEGATIVE of q, and so of the KERNEL itself
                if (moved == INFINITY) {
                    return INFINITY;
                }
                x += xOf(moved) - xOf(q);
                y += yOf(moved) - yOf(q);
                q = sum(q, kernelPoint);
            }
            return pair(Math.floorMod(x, p), Math.floorMod(y, p));
        }
    }

    /** The least square roots modulo the prime that was last asked about. */
    private static final class Roots {
        private final int[] least;
        private int prime;

        Roots() {
            least = new int[MOST_PRIME];
            prime = 0;
        }

        /** The least square root of v modulo p; NONE. */
        int leastRoot(int v, int p) {
            if (p != prime) {
                lay(p);
            }
            return v >= 0 && v < prime ? least[v] : NONE;
        }

        private void lay(int p) {
            if (p < LEAST_PRIME || p > least.length) {
                return;
            }
            prime = p;
            for (int v = 0; v < p; v++) {
                least[v] = NONE;
            }
            // from the greatest root down, so that the least one stays
            for (int r = p / 2; r >= 0; r--) {
                least[r * r % p] = r;
            }
        }
    }

    /**
     * Logarithms: short steps are laid from INFINITY both ways, by x alone; long steps lead from a
     * target back to one of them. The steps that were laid last stay until others are laid.
     */
    private static final class Strides {
        /** By x: the number of the short step that ends there, or 0. */
        private final int[] stepAt;
        private final int[] ends;
        private Curve laidOn;
        private int order;
        private int reach;
        private int back;

        Strides() {
            stepAt = new int[MOST_PRIME];
            ends = new int[MOST_STEPS + 1];
            order = 1;
            back = INFINITY;
        }

        /** Lays the steps of a POINT of ORDER n, n at most 2 MOST_STEPS^2. */
        void lay(Curve e, int base, int n) {
            for (int i = 1; i <= reach; i++) {
                note(endOf(i), 0);
            }
            laidOn = e;
            order = n;
            reach = 0;
            int end = base;
            for (int i = 1; i < ends.length && end != INFINITY && 2 * reach * reach < n; i++) {
                ends[i] = end;
                note(end, i);
                reach = i;
                end = e.sum(end, base);
            }
            back = e.opposite(e.sum(end, endOf(reach)));
        }

        /** The least k, 0 or more, of which k TIMES the POINT that was laid is the target; NONE. */
        int stepsTo(int target) {
            if (laidOn == null || order < 1) {
                return NONE;
            }
            int width = 2 * reach + 1;
            int left = target;
            for (int gone = 0; gone < order + width; gone += width) {
                if (left == INFINITY) {
                    return Math.floorMod(gone, order);
                }
                int i = noted(left);
                if (i > 0) {
                    return Math.floorMod(endOf(i) == left ? gone + i : gone - i, order);
                }
                left = laidOn.sum(left, back);
            }
            return NONE;
        }

        private int endOf(int i) {
            return i > 0 && i < ends.length ? ends[i] : INFINITY;
        }

        private int noted(int point) {
            int x = xOf(point);
            return x >= 0 && x < stepAt.length ? stepAt[x] : 0;
        }

        private void note(int point, int i) {
            int x = xOf(point);
            if (x >= 0 && x < stepAt.length) {
                stepAt[x] = i;
            }
        }
    }

    /** What takes a walk over the POINTS of a curve, or over curves. */
    private static final class Survey {
        private final Roots roots;
        private final Strides strides;
        /** The halves that were found last: at most four, as twice comes to INFINITY of at most four. */
        private final int[] halvesFound;

        Survey() {
            roots = new Roots();
            strides = new Strides();
            halvesFound = new int[4];
        }

        /** The least square root of v modulo p; NONE. */
        int leastRoot(int v, int p) {
            return roots.leastRoot(v, p);
        }

        int sizeOf(Curve e) {
            if (e.points == 0) {
                e.points = manyPoints(e.p, e.a, e.b);
            }
            return e.points;
        }

        int logarithm(Curve e, int base, int target) {
            strides.lay(e, base, e.orderWithin(base, sizeOf(e)));
            return strides.stepsTo(target);
        }

        private int manyPoints(int p, int a, int b) {
            int many = 1;
            for (int x = 0; x < p; x++) {
                many += manyAt(((x * x + a) % p * x + b) % p, p);
            }
            return many;
        }

        private int manyAt(int square, int p) {
            if (square == 0) {
                return 1;
            }
            return roots.leastRoot(square, p) > 0 ? 2 : 0;
        }

        /** The POINT with x and the lesser y; INFINITY if there is none. */
        int lesserAt(Curve e, int x) {
            int y = roots.leastRoot(e.cubic(x), e.p);
            return y < 0 ? INFINITY : pair(x, y);
        }

        /** POINT k by order of those behind INFINITY; NONE. */
        int pointNumber(Curve e, int k) {
            if (k < 1) {
                return NONE;
            }
            int ahead = 1;
            for (int x = 0; x < e.p; x++) {
                int many = manyAt(e.cubic(x), e.p);
                if (k < ahead + many) {
                    int lesser = lesserAt(e, x);
                    return k == ahead ? lesser : e.opposite(lesser);
                }
                ahead += many;
            }
            return NONE;
        }

        int pointsAhead(Curve e, int point) {
            int ahead = 1;
            for (int x = 0; x < xOf(point); x++) {
                ahead += manyAt(e.cubic(x), e.p);
            }
            return lesserAt(e, xOf(point)) == point ? ahead : ahead + 1;
        }

        /** Finds n1 and n2. A prime divides n1 only if its square divides N and it divides p - 1. */
        void settle(Curve e) {
            if (e.inner > 0) {
                return;
            }
            int inner = 1;
            int rest = sizeOf(e);
            for (int turn = 0; turn < MOST_FACTORS && rest > 1; turn++) {
                int q = Whole.leastFactor(rest);
                int part = Whole.partOf(rest, q);
                rest /= part;
                if (part > q && (e.p - 1) % q == 0) {
                    inner *= innerPart(e, q, part);
                }
            }
            e.inner = inner;
            e.outer = e.points / inner;
        }

        /**
         * The part of n1 that is a power of q, part being that of N: two POINTS of such ORDERS are
         * looked for that make all such POINTS; the greater ORDER is then that of n2.
         */
        private int innerPart(Curve e, int q, int part) {
            int best = INFINITY;
            int bestOrder = 1;
            strides.lay(e, best, bestOrder);
            for (int x = 0; x < e.p; x++) {
                int next = lesserAt(e, x);
                if (next == INFINITY) {
                    continue;
                }
                next = e.multiple(next, e.points / part);
                int nextOrder = e.orderWithin(next, part);
                if (nextOrder > bestOrder) {
                    int swapped = best;
                    best = next;
                    next = swapped;
                    bestOrder = nextOrder;
                    strides.lay(e, best, bestOrder);
                }
                int beyond = powerToLaid(e, next, q);
                if (beyond * bestOrder >= part) {
                    return beyond;
                }
            }
            return 1;
        }

        /** The least power of q by which a POINT comes to a multiple of the one whose steps are laid. */
        private int powerToLaid(Curve e, int point, int q) {
            int power = 1;
            int moved = point;
            for (int turn = 0; turn < MOST_FACTORS && strides.stepsTo(moved) == NONE; turn++) {
                moved = e.multiple(moved, q);
                power *= q;
            }
            return power;
        }

        /** Finds P and Q, once n1 and n2 are found; a POINT and its NEGATIVE serve alike, so the lesser do. */
        void findMakers(Curve e) {
            if (e.makersFound) {
                return;
            }
            e.makersFound = true;
            for (int x = 0; x < e.p && e.first == INFINITY; x++) {
                int point = lesserAt(e, x);
                if (point != INFINITY && e.orderWithin(point, e.outer) == e.outer) {
                    e.first = point;
                }
            }
            for (int x = 0; x < e.p && e.second == INFINITY && e.inner > 1; x++) {
                int point = lesserAt(e, x);
                if (point != INFINITY && e.multiple(point, e.inner) == INFINITY && isApart(e, point)) {
                    e.second = point;
                }
            }
        }

        /** Whether a POINT is of ORDER n1, and no multiple of it but INFINITY is one of P. */
        private boolean isApart(Curve e, int point) {
            int rest = e.inner;
            for (int turn = 0; turn < MOST_FACTORS && rest > 1; turn++) {
                int q = Whole.leastFactor(rest);
                rest /= Whole.partOf(rest, q);
                strides.lay(e, e.multiple(e.first, e.outer / q), q);
                if (strides.stepsTo(e.multiple(point, e.inner / q)) != NONE) {
                    return false;
                }
            }
            return true;
        }

        /** The least POINT that PROVES N, once n2 is found: if n2 does not, no part of it does. */
        int leastProver(Curve e) {
            if (!e.isProvedBy(e.outer)) {
                return NONE;
            }
            for (int x = 0; x < e.p; x++) {
                int point = lesserAt(e, x);
                if (point != INFINITY && e.isProvedBy(e.orderWithin(point, e.outer))) {
                    return point;
                }
            }
            return NONE;
        }

        /** Finds the POINTS of which twice is a POINT: how many. */
        int findHalves(Curve e, int point) {
            int many = 0;
            if (point == INFINITY) {
                many = keepHalf(INFINITY, many);
            }
            for (int x = 0; x < e.p; x++) {
                if (mayHalve(e, x, point)) {
                    int lesser = lesserAt(e, x);
                    int greater = e.opposite(lesser);
                    if (lesser != INFINITY && e.sum(lesser, lesser) == point) {
                        many = keepHalf(lesser, many);
                    }
                    if (greater != lesser && e.sum(greater, greater) == point) {
                        many = keepHalf(greater, many);
                    }
                }
            }
            return many;
        }

        /** By x alone, and without a division: twice (x, y) has ((x^2 - a)^2 - 8 b x) / (4 y^2). */
        private static boolean mayHalve(Curve e, int x, int point) {
            int square = e.cubic(x);
            if (point == INFINITY) {
                return square == 0;
            }
            int part = (x * x - e.a) % e.p;
            return (part * part - 8 * e.b * x - 4 * xOf(point) * square) % e.p == 0;
        }

        private int keepHalf(int point, int many) {
            if (many < 0 || many >= halvesFound.length) {
                return many;
            }
            halvesFound[many] = point;
            return many + 1;
        }

        int foundHalf(int i) {
            return i >= 0 && i < halvesFound.length ? halvesFound[i] : NONE;
        }

        /**
         * Of how many a, b the curve has n POINTS. Each j but 0 and 1728 is that of a = 3 k, b = 2 k for
         * just one k; (p - 1) / 2 pairs a, b are as this one by a MAP, and as many as its TWIST.
         */
        int pairsWith(int p, int n) {
            int pairs = manyWithoutA(p, n) + manyWithoutB(p, n);
            for (int k = 1; k < p - 1; k++) {
                int many = manyPoints(p, 3 * k % p, 2 * k % p);
                pairs += many == n ? (p - 1) / 2 : 0;
                pairs += 2 * p + 2 - many == n ? (p - 1) / 2 : 0;
            }
            return pairs;
        }

        /** How many j the curves with n POINTS have, by the same k. */
        int kindsWith(int p, int n) {
            int kinds = manyWithoutA(p, n) > 0 ? 1 : 0;
            kinds += manyWithoutB(p, n) > 0 ? 1 : 0;
            for (int k = 1; k < p - 1; k++) {
                int many = manyPoints(p, 3 * k % p, 2 * k % p);
                kinds += many == n || 2 * p + 2 - many == n ? 1 : 0;
            }
            return kinds;
        }

        /** The curves with a = 0, those of j 0. */
        private int manyWithoutA(int p, int n) {
            int many = 0;
            for (int b = 1; b < p; b++) {
                many += manyPoints(p, 0, b) == n ? 1 : 0;
            }
            return many;
        }

        /** The curves with b = 0, those of j 1728. */
        private int manyWithoutB(int p, int n) {
            int many = 0;
            for (int a = 1; a < p; a++) {
                many += manyPoints(p, a, 0) == n ? 1 : 0;
            }
            return many;
        }
    }
}
