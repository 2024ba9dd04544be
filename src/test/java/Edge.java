/** What the tests of the document's boundary cases (Edges..Test) share. */
final class Edge {
    static final int NONE = -1;
    static final int BAD = -2;
    static final int NO = -3;
    static final int FULL = -4;
    static final int INFINITY = -1;
    static final int LEAST = Integer.MIN_VALUE;
    static final int GREATEST = Integer.MAX_VALUE;
    static final int MOST_CURVES = 24;
    /** The greatest prime that is taken. */
    static final int MOST_PRIME = 10007;

    private Edge() {
    }

    static PointRings with(int p, int a, int b) {
        PointRings r = new PointRings();
        if (r.curve(p, a, b) != 0) {
            throw new IllegalStateException("no curve " + p + ", " + a + ", " + b);
        }
        return r;
    }

    /** An object with so many curves y^2 = x^3 + x + 1 modulo 23. */
    static PointRings filled(int many) {
        PointRings r = new PointRings();
        for (int i = 0; i < many; i++) {
            if (r.curve(23, 1, 1) != i) {
                throw new IllegalStateException("no curve number " + i);
            }
        }
        return r;
    }

    static PointRings full() {
        return filled(MOST_CURVES);
    }

    static int pair(int x, int y) {
        return 16384 * x + y;
    }

    /** Numbers that no curve has, where the object has so many curves. */
    static int[] noCurves(int many) {
        return new int[] {many, many + 1, MOST_CURVES, MOST_CURVES + 1, -1, -2, -MOST_CURVES, LEAST, GREATEST};
    }

    /** What is no POINT of y^2 = x^3 + x + 1 modulo 23, of which (0, 1), (0, 22), (1, 7) and (4, 0) are POINTS. */
    static int[] noPoints() {
        return new int[] {
            -2, -3, -22, LEAST, GREATEST,
            pair(0, 0), pair(0, 2), pair(2, 1), pair(22, 22),
            // y is not modulo p, but as a square it is that of a POINT
            pair(0, 1 + 23), pair(0, 22 + 23), pair(0, 1 + 23 * 700), pair(1, 7 + 23), pair(4, 23), pair(4, 46),
            // x is not modulo p, but would be that of a POINT
            pair(23, 1), pair(24, 7), pair(23 * 5000, 1), pair(-23, 1), pair(-22, 7)};
    }

    /** All that an object tells of itself. */
    static String state(PointRings r) {
        StringBuilder told = new StringBuilder().append(r.curves());
        for (int c = 0; c < r.curves(); c++) {
            for (int what = 0; what < 7; what++) {
                told.append(' ').append(r.told(c, what));
            }
            for (int what = 0; what < 3; what++) {
                told.append('/').append(r.kernel(c, what));
            }
            told.append('=').append(r.count(c));
        }
        return told.toString();
    }
}
