/*
 * The six walls of the cube are held as bounds too, in front of those of the list. They make the
 * body finite, so it has points only if it has corners, and a sum a*x + b*y + c*z is greatest at a
 * corner: what is asked of all points is asked of the corners alone. A corner is the point where
 * three planes cross, kept exactly as three numerators over one positive denominator.
 */
public final class FourierMotzkin {
    private static final int AXES = 3;
    private static final int WALLS = 6;
    private static final int REACH = 10;
    private static final int MOST_BOUNDS = 7;
    private static final int MOST_SLOPE = 728;
    private static final int MOST_D = 40;
    private static final int MOST_ASKED_D = 1000;
    private static final int MOST_K = 20;
    private static final int MOST_COORDINATE = 400;

    /** The place behind the last bound is for the bound of a question, which the body need not keep. */
    private static final int ASKED = WALLS + MOST_BOUNDS;
    private static final int PLANES = ASKED + 1;
    private static final int NONE = -1;

    /** As many as there are ways to choose 3 of 13 planes. */
    private static final int MOST_CORNERS = 286;

    /** |a*x + b*y + c*z| is no more than this inside the cube. */
    private static final int MOST_SUPPORT = 120;

    private static final int SLOPE_X = 81;
    private static final int SLOPE_Y = 9;
    private static final int SLOPE_SHIFT = 4;
    private static final int FLAT_SLOPE = SLOPE_SHIFT * (SLOPE_X + SLOPE_Y + 1);

    private static final int WRONG_AXIS = -1000000;
    private static final int EMPTY_REACH = -2000000;
    private static final int WRONG_SLOPE_SUPPORT = -1000;
    private static final int EMPTY_SUPPORT = -2000;

    private final int[] factors = new int[AXES * PLANES];
    private final int[] limits = new int[PLANES];
    private int count = 0;

    /** The corners are found anew for every question: nothing lasts in them from call to call. */
    private final int[] cornerTops = new int[AXES * MOST_CORNERS];
    private final int[] cornerBottoms = new int[MOST_CORNERS];
    private int corners = 0;

    public FourierMotzkin() {
        setPlane(0, FLAT_SLOPE + SLOPE_X, REACH);
        setPlane(1, FLAT_SLOPE - SLOPE_X, REACH);
        setPlane(2, FLAT_SLOPE + SLOPE_Y, REACH);
        setPlane(3, FLAT_SLOPE - SLOPE_Y, REACH);
        setPlane(4, FLAT_SLOPE + 1, REACH);
        setPlane(5, FLAT_SLOPE - 1, REACH);
    }

    public int add(int slope, int d) {
        if (!isSlope(slope)) {
            return -1;
        }
        if (!isWithin(d, MOST_D)) {
            return -2;
        }
        if (count >= MOST_BOUNDS) {
            return -3;
        }
        setPlane(WALLS + count, slope, d);
        count++;
        return count - 1;
    }

    public int remove(int bound) {
        if (!isBound(bound)) {
            return -1;
        }
        count--;
        for (int plane = WALLS + bound; plane < WALLS + count; plane++) {
            copyPlane(plane + 1, plane);
        }
        return count;
    }

    public int move(int bound, int d) {
        if (!isBound(bound)) {
            return -1;
        }
        if (!isWithin(d, MOST_D)) {
            return -2;
        }
        int before = limits[WALLS + bound];
        limits[WALLS + bound] = d;
        return before;
    }

    public int bounds() {
        return count;
    }

    public int empty() {
        findCorners(NONE);
        return corners == 0 ? 1 : 0;
    }

    public long mostTop(int axis) {
        return reachTop(axis, 1);
    }

    public long mostBottom(int axis) {
        return reachBottom(axis, 1);
    }

    public long leastTop(int axis) {
        return reachTop(axis, -1);
    }

    public long leastBottom(int axis) {
        return reachBottom(axis, -1);
    }

    public int follows(int slope, int d) {
        if (!isSlope(slope)) {
            return -1;
        }
        if (!isWithin(d, MOST_ASKED_D)) {
            return -2;
        }
        setPlane(ASKED, slope, d);
        findCorners(NONE);
        return cornersKeep(ASKED) ? 1 : 0;
    }

    public int support(int slope) {
        if (!isSlope(slope)) {
            return WRONG_SLOPE_SUPPORT;
        }
        findCorners(NONE);
        if (corners == 0) {
            return EMPTY_SUPPORT;
        }
        for (int d = -MOST_SUPPORT; d < MOST_SUPPORT; d++) {
            setPlane(ASKED, slope, d);
            if (cornersKeep(ASKED)) {
                return d;
            }
        }
        return MOST_SUPPORT;
    }

    public int redundant(int bound) {
        if (!isBound(bound)) {
            return -1;
        }
        findCorners(WALLS + bound);
        return cornersKeep(WALLS + bound) ? 1 : 0;
    }

    public int has(int x, int y, int z, int k) {
        if (!isScale(k)) {
            return -1;
        }
        if (!isWithin(x, MOST_COORDINATE) || !isWithin(y, MOST_COORDINATE)
                || !isWithin(z, MOST_COORDINATE)) {
            return -2;
        }
        for (int plane = 0; plane < WALLS + count; plane++) {
            int first = AXES * plane;
            int sum = factors[first] * x + factors[first + 1] * y + factors[first + 2] * z;
            if (sum > limits[plane] * k) {
                return 0;
            }
        }
        return 1;
    }

    public int shadow(int axis, int p, int q, int k) {
        if (!isAxis(axis)) {
            return -1;
        }
        if (!isScale(k)) {
            return -2;
        }
        if (!isWithin(p, MOST_COORDINATE) || !isWithin(q, MOST_COORDINATE)) {
            return -3;
        }
        return lineMeetsBody(axis, p, q, k) ? 1 : 0;
    }

    public int shadowGrid(int axis) {
        if (!isAxis(axis)) {
            return -1;
        }
        int found = 0;
        for (int p = -REACH; p <= REACH; p++) {
            for (int q = -REACH; q <= REACH; q++) {
                if (lineMeetsBody(axis, p, q, 1)) {
                    found++;
                }
            }
        }
        return found;
    }

    public int single() {
        findCorners(NONE);
        if (corners == 0) {
            return 0;
        }
        for (int corner = 1; corner < corners; corner++) {
            if (!isFirstCorner(corner)) {
                return 0;
            }
        }
        return 1;
    }

    private static boolean isSlope(int slope) {
        return slope >= 0 && slope <= MOST_SLOPE;
    }

    private static boolean isAxis(int axis) {
        return axis >= 0 && axis < AXES;
    }

    private static boolean isScale(int k) {
        return k >= 1 && k <= MOST_K;
    }

    private static boolean isWithin(int value, int most) {
        return value >= -most && value <= most;
    }

    private boolean isBound(int bound) {
        return bound >= 0 && bound < count;
    }

    private void setPlane(int plane, int slope, int d) {
        factors[AXES * plane] = slope / SLOPE_X - SLOPE_SHIFT;
        factors[AXES * plane + 1] = slope / SLOPE_Y % SLOPE_Y - SLOPE_SHIFT;
        factors[AXES * plane + 2] = slope % SLOPE_Y - SLOPE_SHIFT;
        limits[plane] = d;
    }

    private void copyPlane(int from, int to) {
        for (int axis = 0; axis < AXES; axis++) {
            factors[AXES * to + axis] = factors[AXES * from + axis];
        }
        limits[to] = limits[from];
    }

    /** Finds the corners of the body, or of the body that is left without one of the planes. */
    private void findCorners(int without) {
        int planes = WALLS + count;
        corners = 0;
        for (int first = 0; first < planes; first++) {
            for (int second = first + 1; second < planes; second++) {
                for (int third = second + 1; third < planes; third++) {
                    if (first != without && second != without && third != without) {
                        tryCorner(first, second, third, without);
                    }
                }
            }
        }
    }

    /** Writes the crossing in the next free place, and takes the place only if it is in the body. */
    private void tryCorner(int first, int second, int third, int without) {
        int bottom = determinant(first, second, third);
        if (bottom == 0 || corners >= MOST_CORNERS) {
            return;
        }
        int sign = bottom < 0 ? -1 : 1;
        cornerBottoms[corners] = sign * bottom;
        for (int axis = 0; axis < AXES; axis++) {
            int top = crossingTop(first, second, third, axis);
            cornerTops[AXES * corners + axis] = sign * top;
        }
        for (int plane = 0; plane < WALLS + count; plane++) {
            if (plane != without && !cornerKeeps(corners, plane)) {
                return;
            }
        }
        corners++;
    }

    private int determinant(int first, int second, int third) {
        int sum = 0;
        for (int axis = 0; axis < AXES; axis++) {
            sum += factors[AXES * first + axis] * cross(second, third, axis);
        }
        return sum;
    }

    /** Cramer's rule, with the determinant of the three planes as denominator. */
    private int crossingTop(int first, int second, int third, int axis) {
        return limits[first] * cross(second, third, axis)
                + limits[second] * cross(third, first, axis)
                + limits[third] * cross(first, second, axis);
    }

    private int cross(int one, int other, int axis) {
        int next = (axis + 1) % AXES;
        int last = (axis + 2) % AXES;
        return factors[AXES * one + next] * factors[AXES * other + last]
                - factors[AXES * one + last] * factors[AXES * other + next];
    }

    private boolean cornerKeeps(int corner, int plane) {
        int sum = 0;
        for (int axis = 0; axis < AXES; axis++) {
            sum += factors[AXES * plane + axis] * cornerTops[AXES * corner + axis];
        }
        return sum <= limits[plane] * cornerBottoms[corner];
    }

    private boolean cornersKeep(int plane) {
        for (int corner = 0; corner < corners; corner++) {
            if (!cornerKeeps(corner, plane)) {
                return false;
            }
        }
        return true;
    }

    private boolean isFirstCorner(int corner) {
        for (int axis = 0; axis < AXES; axis++) {
            int here = cornerTops[AXES * corner + axis] * cornerBottoms[0];
            int there = cornerTops[axis] * cornerBottoms[corner];
            if (here != there) {
                return false;
            }
        }
        return true;
    }

    /** The numerator of the greatest coordinate if sign is 1, of the least one if it is -1. */
    private int reachTop(int axis, int sign) {
        if (!isAxis(axis)) {
            return WRONG_AXIS;
        }
        findCorners(NONE);
        if (corners == 0) {
            return EMPTY_REACH;
        }
        int corner = farthestCorner(axis, sign);
        int top = cornerTops[AXES * corner + axis];
        return top / commonDivisor(top, cornerBottoms[corner]);
    }

    private int reachBottom(int axis, int sign) {
        if (!isAxis(axis)) {
            return 0;
        }
        findCorners(NONE);
        if (corners == 0) {
            return 0;
        }
        int corner = farthestCorner(axis, sign);
        int bottom = cornerBottoms[corner];
        return bottom / commonDivisor(cornerTops[AXES * corner + axis], bottom);
    }

    private int farthestCorner(int axis, int sign) {
        int best = 0;
        for (int corner = 1; corner < corners; corner++) {
            int here = sign * cornerTops[AXES * corner + axis] * cornerBottoms[best];
            int there = sign * cornerTops[AXES * best + axis] * cornerBottoms[corner];
            if (here > there) {
                best = corner;
            }
        }
        return best;
    }

    /** No denominator is over 256, so counting down is quick enough, and the answer is never 0. */
    private static int commonDivisor(int top, int bottom) {
        for (int divisor = bottom; divisor > 1; divisor--) {
            if (top % divisor == 0 && bottom % divisor == 0) {
                return divisor;
            }
        }
        return 1;
    }

    /**
     * Whether a point of the body lies over p / k, q / k. All is taken k times as large, so that
     * only the coordinate along the axis, between low and high, can be a fraction.
     */
    private boolean lineMeetsBody(int axis, int p, int q, int k) {
        int axisOfP = axis == 0 ? 1 : 0;
        int axisOfQ = axis == 2 ? 1 : 2;
        int lowTop = -REACH * k;
        int lowBottom = 1;
        int highTop = REACH * k;
        int highBottom = 1;
        for (int plane = 0; plane < WALLS + count; plane++) {
            int factor = factors[AXES * plane + axis];
            int rest = limits[plane] * k - factors[AXES * plane + axisOfP] * p
                    - factors[AXES * plane + axisOfQ] * q;
            if (factor == 0 && rest < 0) {
                return false;
            }
            if (factor > 0 && rest * highBottom < highTop * factor) {
                highTop = rest;
                highBottom = factor;
            }
            if (factor < 0 && -rest * lowBottom > lowTop * -factor) {
                lowTop = -rest;
                lowBottom = -factor;
            }
        }
        return lowTop * highBottom <= highTop * lowBottom;
    }
}
