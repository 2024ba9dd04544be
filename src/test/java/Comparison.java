import java.util.List;
import java.util.Random;

/** Every call of one curve against the document's words tried out plainly; samples above 100: all POINTS. */
final class Comparison {
    private final Check check;
    private final Random random = new Random(20261116);

    Comparison(Check check) {
        this.check = check;
    }

    void compare(int p, int a, int b, int samples) {
        if (!Naive.isCurve(p, a, b)) {
            check.due("curve " + p + " " + a + " " + b, new PointRings().curve(p, a, b), Naive.NO);
            return;
        }
        Naive e = new Naive(p, a, b);
        String name = p + "," + a + "," + b + ": ";
        compareNumbers(name, e, samples);
        comparePoints(name, e, samples);
        compareAlone(name, e, samples);
        compareCounts(name, e);
        comparePairs(name, e, samples);
        compareMaps(name, e);
        compareKernels(name, e, samples);
        compareSignatures(name, e, samples);
    }

    private static PointRings fresh(Naive e) {
        PointRings r = new PointRings();
        r.curve(e.p, e.a, e.b);
        return r;
    }

    private void compareNumbers(String name, Naive e, int samples) {
        PointRings r = fresh(e);
        check.due(name + "j", r.told(0, 3), e.j());
        check.due(name + "told 4", r.told(0, 4), e.mod(-16 * (4L * e.a * e.a * e.a + 27L * e.b * e.b)));
        check.due(name + "told 5", r.told(0, 5), e.noSquare());
        check.due(name + "told 6", r.told(0, 6), e.selfMaps());
        check.due(name + "generator", r.generator(0), e.generator());
        for (int i = -3; i < Math.min(samples, e.p) + 3; i++) {
            int v = samples > 100 ? i : random.nextInt();
            check.due(name + "root " + v, r.root(0, v), e.root(v));
            check.due(name + "inverse " + v, r.inverse(0, v), e.mod(v) == 0 ? -1 : e.over(1, e.mod(v)));
            int power = 1;
            for (int k = 0; k < 6; k++) {
                check.due(name + v + " to the " + k, r.power(0, v, k), power);
                check.due(name + v + " to the far " + k, r.power(0, v, k + 1000000007L * (e.p - 1)),
                    e.mod(v) == 0 ? 0 : power);
                power = e.mod((long) power * e.mod(v));
            }
        }
    }

    private int some(Naive e, int i, int samples) {
        return samples > 100 ? e.points.get(i % e.points.size()) : e.points.get(random.nextInt(e.points.size()));
    }

    private void comparePoints(String name, Naive e, int samples) {
        PointRings r = fresh(e);
        int n = e.points.size();
        check.due(name + "count", r.count(0), n);
        for (int i = 0; i < Math.min(samples, n); i++) {
            int s = some(e, i, samples);
            check.due(name + "rank " + s, r.rank(0, s), e.points.indexOf(s));
            check.due(name + "nth of " + s, r.nth(0, e.points.indexOf(s)), s);
            check.due(name + "negative " + s, r.negative(0, s), e.negative(s));
            check.due(name + "order " + s, r.order(0, s), e.order(s));
            for (int k = -3; k < 12; k++) {
                check.due(name + k + " times " + s, r.times(0, s, k), e.times(s, k));
            }
        }
        check.due(name + "nth N", r.nth(0, n), -1);
        check.due(name + "nth -1", r.nth(0, -1), -1);
        check.due(name + "nth -2", r.nth(0, -2), -1);
        for (int i = 0; i < Math.min(samples, e.p); i++) {
            int x = samples > 100 ? i : random.nextInt(e.p);
            int y = random.nextInt(e.p);
            check.due(name + "point", r.point(0, x, y), e.points.contains(16384 * x + y) ? 16384 * x + y : -1);
            check.due(name + "lift odd " + x, r.lift(0, x, true), e.lift(x, true));
            check.due(name + "lift even " + x, r.lift(0, x, false), e.lift(x, false));
            int h = random.nextInt();
            check.due(name + "near " + h, r.near(0, h), e.near(h));
            check.due(name + "near " + x, r.near(0, x), e.near(x));
        }
    }

    private void compareAlone(String name, Naive e, int samples) {
        PointRings r = fresh(e);
        Naive twist = e.twist();
        for (int i = 0; i < Math.min(samples, e.p); i++) {
            int x = samples > 100 ? i : random.nextInt(e.p);
            for (long k : new long[] {-2, 0, 1, 2, 3, 4, 5, 7, Long.MIN_VALUE, Long.MAX_VALUE}) {
                check.due(name + "alone " + x + " " + k, r.alone(0, x, k), e.alone(x, k, twist));
            }
        }
    }

    private void compareCounts(String name, Naive e) {
        PointRings r = fresh(e);
        int n = e.points.size();
        Naive twist = e.twist();
        check.due(name + "twist's N", twist.points.size(), 2 * e.p + 2 - n);
        check.due(name + "bound 0", r.bound(0, 0), e.bound(0));
        check.due(name + "bound 1", r.bound(0, 1), e.bound(1));
        check.due(name + "proof 0", r.proof(0, 0), e.proof());
        check.due(name + "proof 1", r.proof(0, 1), twist.proof());
        check.due(name + "supersingular", r.supersingular(0), (e.p + 1 - n) % e.p == 0 ? 1 : 0);
        check.due(name + "countOver 1", r.countOver(0, 1), n);
        int[] made = e.made();
        for (int what = 0; what < 4; what++) {
            check.due(name + "made " + what, r.made(0, what), made[what]);
        }
        for (int m = 1; m <= Math.min(n + 3, 60); m++) {
            check.due(name + "ofOrder " + m, r.ofOrder(0, m), e.ofOrder(m));
            check.due(name + "torsion " + m, r.torsion(0, m), e.torsion(m));
        }
        for (int m : new int[] {n, made[1], 2 * made[1], Integer.MAX_VALUE, 7 * made[0], 720720}) {
            check.due(name + "ofOrder " + m, r.ofOrder(0, m), e.ofOrder(m));
            check.due(name + "torsion " + m, r.torsion(0, m), e.torsion(m));
        }
        for (int m = 2; m < 40; m++) {
            check.due(name + "embedding " + m, r.embedding(0, m), e.embedding(m));
        }
    }

    private void comparePairs(String name, Naive e, int samples) {
        PointRings r = fresh(e);
        for (int i = 0; i < Math.min(samples, e.points.size()); i++) {
            int s = some(e, i, samples);
            List<Integer> halves = e.halves(s);
            check.due(name + "halves " + s, r.halves(0, s), halves.size());
            for (int h = 0; h < 6; h++) {
                check.due(name + "half " + s + " " + h, r.half(0, s, h), h < halves.size() ? halves.get(h) : -1);
            }
            for (int j = 0; j < Math.min(samples, e.points.size()); j++) {
                int t = some(e, j, samples);
                check.due(name + "add " + s + " " + t, r.add(0, s, t), e.add(s, t));
                check.due(name + "log " + s + " " + t, r.log(0, s, t), e.log(s, t));
                int m = e.times(s, random.nextInt(1000));
                check.due(name + "log " + s + " " + m, r.log(0, s, m), e.log(s, m));
            }
        }
    }

    private void compareMaps(String name, Naive e) {
        PointRings r = fresh(e);
        Naive twist = e.twist();
        check.due(name + "twist", r.twist(0), 1);
        check.due(name + "twist a", r.told(1, 1), twist.a);
        check.due(name + "twist b", r.told(1, 2), twist.b);
        check.due(name + "map to the twist", r.map(0, 1), e.map(twist));
        int u = 1 + random.nextInt(e.p - 1);
        int u2 = e.mod((long) u * u);
        int u4 = e.mod((long) u2 * u2);
        Naive to = new Naive(e.p, e.mod((long) e.a * u4), e.mod((long) e.b * e.mod((long) u4 * u2)));
        r.curve(to.p, to.a, to.b);
        check.due(name + "map " + u, r.map(0, 2), e.map(to));
        for (int s : e.points.subList(0, Math.min(20, e.points.size()))) {
            int end = s == -1 ? -1 : 16384 * e.mod((long) e.x(s) * u2) + e.mod((long) e.y(s) * e.mod((long) u * u2));
            check.due(name + "mapped " + u + " " + s, r.mapped(0, u, s), end);
            check.holds(name + "mapped is a POINT", to.points.contains(end));
        }
    }

    private void compareKernels(String name, Naive e, int samples) {
        PointRings r = fresh(e);
        for (int i = 0; i < Math.min(samples, e.points.size()); i++) {
            int s = some(e, i, samples);
            if (e.order(s) > 400) {
                check.due(name + "quotient " + s, r.quotient(0, s), Naive.NO);
                continue;
            }
            Naive d = e.quotient(s);
            check.due(name + "quotient " + s, r.quotient(0, s), 1);
            check.due(name + "quotient's a", r.told(1, 1), d.a);
            check.due(name + "quotient's b", r.told(1, 2), d.b);
            check.due(name + "quotient's N", r.count(1), e.points.size());
            check.due(name + "kernel 0", r.kernel(1, 0), 0);
            check.due(name + "kernel 1", r.kernel(1, 1), s);
            check.due(name + "kernel 2", r.kernel(1, 2), e.order(s));
            for (int k = 0; k < Math.min(samples, 12); k++) {
                int t = e.points.get(random.nextInt(e.points.size()));
                int end = r.image(1, t);
                check.due(name + "image " + s + " " + t, end, e.image(s, t));
                check.holds(name + "image is a POINT", r.rank(1, end) >= 0);
            }
            check.due(name + "drop", r.drop(), 1);
        }
    }

    private void compareSignatures(String name, Naive e, int samples) {
        PointRings r = fresh(e);
        for (int i = 0; i < Math.min(samples, e.points.size()); i++) {
            int g = some(e, i, samples);
            int n = e.order(g);
            for (int j = 0; j < 10; j++) {
                int d = random.nextInt(n + 1);
                int k = random.nextInt(n + 1);
                int h = random.nextInt(3) == 0 ? random.nextInt() : random.nextInt(2 * n);
                int first = r.sign(0, g, d, k, h, 0);
                int second = r.sign(0, g, d, k, h, 1);
                check.due(name + "sign 0 " + g + " " + d + " " + k + " " + h, first, e.sign(g, d, k, h, 0));
                check.due(name + "sign 1 " + g + " " + d + " " + k + " " + h, second, e.sign(g, d, k, h, 1));
                int q = e.times(g, d);
                if (first > 0) {
                    check.due(name + "good of what was signed", r.good(0, g, q, h, first, second), 1);
                    check.due(name + "good of what was signed, plainly", e.good(g, q, h, first, second), 1);
                }
                int any = e.points.get(random.nextInt(e.points.size()));
                int s = random.nextInt(n + 2) - 1;
                int t = random.nextInt(n + 2) - 1;
                check.due(name + "good " + g + " " + any + " " + h + " " + s + " " + t,
                    r.good(0, g, any, h, s, t), e.good(g, any, h, s, t));
            }
        }
    }
}
