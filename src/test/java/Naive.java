import java.math.BigInteger;
import java.util.ArrayList;
import java.util.Arrays;
import java.util.HashMap;
import java.util.HashSet;
import java.util.List;
import java.util.Map;
import java.util.Set;
import java.util.TreeSet;

/** One curve in the document's plainest words: everything is tried out over lists of all POINTS. */
final class Naive {
    static final int NONE = -1;
    static final int BAD = -2;
    static final int NO = -3;
    static final int FULL = -4;
    static final int INFINITY = -1;

    final int p;
    final int a;
    final int b;
    final List<Integer> points = new ArrayList<>();
    private final Map<Integer, Integer> orders = new HashMap<>();

    Naive(int p, int a, int b) {
        this.p = p;
        this.a = a;
        this.b = b;
        points.add(INFINITY);
        List<List<Integer>> rootsOf = new ArrayList<>();
        for (int v = 0; v < p; v++) {
            rootsOf.add(new ArrayList<>());
        }
        for (int y = 0; y < p; y++) {
            rootsOf.get(mod((long) y * y)).add(y);
        }
        for (int x = 0; x < p; x++) {
            for (int y : rootsOf.get(right(x))) {
                points.add(16384 * x + y);
            }
        }
    }

    static boolean isCurve(int p, int a, int b) {
        return (4L * a * a * a + 27L * b * b) % p != 0;
    }

    int mod(long v) {
        return (int) Math.floorMod(v, (long) p);
    }

    int right(int x) {
        return mod(mod((long) x * x) * (long) x + (long) a * x + b);
    }

    int over(long top, long bottom) {
        BigInteger m = BigInteger.valueOf(p);
        return BigInteger.valueOf(top).multiply(BigInteger.valueOf(bottom).modInverse(m)).mod(m).intValue();
    }

    int x(int point) {
        return point / 16384;
    }

    int y(int point) {
        return point % 16384;
    }

    int add(int s, int t) {
        if (s == INFINITY) {
            return t;
        }
        if (t == INFINITY) {
            return s;
        }
        if (x(s) == x(t) && mod(y(s) + y(t)) == 0) {
            return INFINITY;
        }
        int slope = s == t
            ? over(3L * x(s) * x(s) + a, 2L * y(s))
            : over(y(t) - y(s), x(t) - x(s));
        int x3 = mod((long) slope * slope - x(s) - x(t));
        int y3 = mod((long) slope * (x(s) - x3) - y(s));
        return 16384 * x3 + y3;
    }

    int negative(int s) {
        return s == INFINITY ? s : 16384 * x(s) + mod(-y(s));
    }

    int times(int s, long k) {
        int n = order(s);
        int result = INFINITY;
        for (long i = Math.floorMod(k, (long) n); i > 0; i--) {
            result = add(result, s);
        }
        return result;
    }

    int order(int s) {
        if (s == INFINITY) {
            return 1;
        }
        Integer known = orders.get(s);
        if (known != null) {
            return known;
        }
        List<Integer> multiples = new ArrayList<>();
        for (int at = s; at != INFINITY; at = add(at, s)) {
            multiples.add(at);
        }
        int k = multiples.size() + 1;
        // the ORDERS of the multiples of s follow from that of s
        for (int i = 1; i < k; i++) {
            int shared = BigInteger.valueOf(i).gcd(BigInteger.valueOf(k)).intValue();
            orders.put(multiples.get(i - 1), k / shared);
        }
        return k;
    }

    int j() {
        return over(1728L * mod(4L * a * a * a), 4L * a * a * a + 27L * b * b);
    }

    int noSquare() {
        for (int d = 0; ; d++) {
            boolean square = false;
            for (int r = 0; r < p; r++) {
                square |= mod((long) r * r) == d;
            }
            if (!square) {
                return d;
            }
        }
    }

    int root(int v) {
        for (int r = 0; r < p; r++) {
            if (mod((long) r * r - v) == 0) {
                return r;
            }
        }
        return NONE;
    }

    int generator() {
        for (int g = 1; ; g++) {
            Set<Integer> powers = new HashSet<>();
            int at = 1;
            for (int i = 0; i < p; i++) {
                powers.add(at);
                at = mod((long) at * g);
            }
            if (powers.size() == p - 1) {
                return g;
            }
        }
    }

    int map(Naive to) {
        if (p != to.p) {
            return NONE;
        }
        for (int u = 1; u < p; u++) {
            if (isMap(to, u)) {
                return u;
            }
        }
        return NONE;
    }

    boolean isMap(Naive to, int u) {
        int u2 = mod((long) u * u);
        int u4 = mod((long) u2 * u2);
        int u6 = mod((long) u4 * u2);
        return mod((long) a * u4) == to.a && mod((long) b * u6) == to.b;
    }

    int selfMaps() {
        int many = 0;
        for (int u = 1; u < p; u++) {
            many += isMap(this, u) ? 1 : 0;
        }
        return many;
    }

    Naive twist() {
        long d = noSquare();
        return new Naive(p, mod(a * d * d), mod(mod(b * d * d) * d));
    }

    int lift(int x, boolean odd) {
        for (int s : points) {
            if (s != INFINITY && x(s) == x && (y(s) % 2 == 1) == odd) {
                return s;
            }
        }
        return NONE;
    }

    int near(int h) {
        for (int i = 0; i < p; i++) {
            int x = mod((long) h + i);
            for (int s : points) {
                if (s != INFINITY && x(s) == x) {
                    return s;
                }
            }
        }
        return NONE;
    }

    int alone(int x, long k, Naive twist) {
        for (int s : points) {
            if (s != INFINITY && x(s) == x) {
                int end = times(s, k);
                return end == INFINITY ? NONE : x(end);
            }
        }
        int d = noSquare();
        for (int s : twist.points) {
            if (s != INFINITY && x(s) == mod((long) d * x)) {
                int end = twist.times(s, k);
                return end == INFINITY ? NONE : over(x(end), d);
            }
        }
        throw new IllegalStateException("neither the curve nor its twist has x");
    }

    int bound(int what) {
        int least = Integer.MAX_VALUE;
        int greatest = 0;
        for (int m = 0; m <= 4 * p; m++) {
            long off = m - p - 1;
            if (off * off <= 4L * p) {
                least = Math.min(least, m);
                greatest = m;
            }
        }
        return what == 0 ? least : greatest;
    }

    int proof() {
        int least = bound(0);
        int greatest = bound(1);
        for (int s : points) {
            int within = 0;
            for (int m = least; m <= greatest; m++) {
                within += m % order(s) == 0 ? 1 : 0;
            }
            if (within == 1) {
                return s;
            }
        }
        return NONE;
    }

    int ofOrder(int n) {
        int many = 0;
        for (int s : points) {
            many += order(s) == n ? 1 : 0;
        }
        return many;
    }

    int torsion(int n) {
        int many = 0;
        for (int s : points) {
            many += n % order(s) == 0 ? 1 : 0;
        }
        return many;
    }

    /** n1, n2, P, Q by trying every Q of ORDER n1 against all SUMS. */
    int[] made() {
        int n2 = 1;
        for (int s : points) {
            n2 = Math.max(n2, order(s));
        }
        int n1 = points.size() / n2;
        int first = INFINITY;
        for (int i = points.size() - 1; i >= 0; i--) {
            first = order(points.get(i)) == n2 ? points.get(i) : first;
        }
        for (int second : points) {
            if (order(second) == n1 && makesAll(first, n2, second, n1)) {
                return new int[] {n1, n2, first, second};
            }
        }
        throw new IllegalStateException("no makers");
    }

    boolean makesAll(int first, int n2, int second, int n1) {
        Set<Integer> made = new HashSet<>();
        int row = INFINITY;
        for (int j = 0; j < n1; j++) {
            int at = row;
            for (int i = 0; i < n2; i++) {
                if (!made.add(at)) {
                    return false;
                }
                at = add(at, first);
            }
            row = add(row, second);
        }
        return made.size() == points.size();
    }

    List<Integer> halves(int s) {
        List<Integer> found = new ArrayList<>();
        for (int t : points) {
            if (add(t, t) == s) {
                found.add(t);
            }
        }
        return found;
    }

    int log(int s, int t) {
        int at = INFINITY;
        for (int k = 0; k < order(s); k++) {
            if (at == t) {
                return k;
            }
            at = add(at, s);
        }
        return NONE;
    }

    int embedding(int n) {
        long at = 1;
        for (int k = 1; k <= n; k++) {
            at = at * p % n;
            if (at == 1 % n) {
                return k;
            }
        }
        return NONE;
    }

    List<Integer> kernel(int s) {
        List<Integer> found = new ArrayList<>();
        int at = INFINITY;
        for (int k = 0; k < order(s); k++) {
            found.add(at);
            at = add(at, s);
        }
        return found;
    }

    Naive quotient(int s) {
        long t = 0;
        long w = 0;
        for (int q : kernel(s)) {
            if (q != INFINITY) {
                long x = x(q);
                t += 3 * x * x + a;
                w += mod(5 * x * x * x + 3L * a * x + 2L * b);
            }
        }
        return new Naive(p, mod(a - 5L * mod(t)), mod(b - 7L * mod(w)));
    }

    int image(int s, int point) {
        List<Integer> kernel = kernel(s);
        if (kernel.contains(point)) {
            return INFINITY;
        }
        long x = x(point);
        long y = y(point);
        for (int q : kernel) {
            if (q != INFINITY) {
                x += x(add(point, q)) - x(q);
                y += y(add(point, q)) - y(q);
            }
        }
        return 16384 * mod(x) + mod(y);
    }

    static boolean isPrime(int n) {
        return n > 1 && BigInteger.valueOf(n).isProbablePrime(40);
    }

    int sign(int g, int d, int k, int h, int what) {
        int n = order(g);
        if (!isPrime(n) || d < 1 || d >= n || k < 1 || k >= n || h < 0 || what < 0 || what > 1) {
            return BAD;
        }
        BigInteger m = BigInteger.valueOf(n);
        int r = x(times(g, k)) % n;
        int s = BigInteger.valueOf(h + (long) r * d).multiply(BigInteger.valueOf(k).modInverse(m)).mod(m).intValue();
        return r == 0 || s == 0 ? NO : what == 0 ? r : s;
    }

    int good(int g, int q, int h, int r, int s) {
        int n = order(g);
        if (!isPrime(n) || h < 0) {
            return BAD;
        }
        if (r < 1 || r >= n || s < 1 || s >= n) {
            return 0;
        }
        BigInteger m = BigInteger.valueOf(n);
        BigInteger over = BigInteger.valueOf(s).modInverse(m);
        int u = BigInteger.valueOf(h).multiply(over).mod(m).intValue();
        int v = BigInteger.valueOf(r).multiply(over).mod(m).intValue();
        int met = add(times(g, u), times(q, v));
        return met != INFINITY && x(met) % n == r ? 1 : 0;
    }

    /** By n: of how many a, b, and how many j. */
    static int[][] census(int p) {
        int[] pairs = new int[3 * p];
        List<Set<Integer>> kinds = new ArrayList<>();
        for (int n = 0; n < 3 * p; n++) {
            kinds.add(new TreeSet<>());
        }
        for (int a = 0; a < p; a++) {
            for (int b = 0; b < p; b++) {
                if (isCurve(p, a, b)) {
                    Naive e = new Naive(p, a, b);
                    pairs[e.points.size()]++;
                    kinds.get(e.points.size()).add(e.j());
                }
            }
        }
        int[] manyKinds = new int[3 * p];
        Arrays.setAll(manyKinds, n -> kinds.get(n).size());
        return new int[][] {pairs, manyKinds};
    }
}
