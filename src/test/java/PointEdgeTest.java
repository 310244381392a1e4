/** The boundary cases of promises 14 to 16, each sentence in a method of its own. */
final class PointEdgeTest {
    private static final int[] WRONG_AXES = {Integer.MIN_VALUE, -3, -1, 3, 4, Integer.MAX_VALUE};
    private static final int[] WRONG_KS = {Integer.MIN_VALUE, -20, -1, 0, 21, 22, Integer.MAX_VALUE};
    private static final int[] WRONG_COORDINATES = {
        Integer.MIN_VALUE, -401, 401, Integer.MAX_VALUE,
    };

    public static void main(String[] args) {
        hasAPoint();
        hasAPointAtTheWalls();
        hasNoPointOfNothing();
        hasScale();
        hasCoordinates();
        shadowOfAPoint();
        shadowAtTheWalls();
        shadowUpToTheFarWall();
        shadowAlongALine();
        shadowBetweenThree();
        shadowOfNothing();
        shadowInTheOrderOfTheAxes();
        shadowAxis();
        shadowScale();
        shadowCoordinates();
        gridOfAll();
        gridOfOne();
        gridOfNone();
        gridAsShadowTells();
        gridAxis();
        Checks.finish();
    }

    private static int slope(int a, int b, int c) {
        return Bodies.slope(a, b, c);
    }

    private static void due(String what, long got, long want) {
        Checks.due(what, got, want);
    }

    private static void hasAPoint() {
        Checks.sentence("has: 1 if the point (x / k, y / k, z / k) is in the body, otherwise 0");
        for (int k = 1; k <= 20; k++) {
            FourierMotzkin body = Bodies.of(slope(1, -1, 1), 1);
            due("on the plane, k " + k, body.has(k, k, k, k), 1);
            due("beyond in x, k " + k, body.has(k + 1, k, k, k), 0);
            due("within in x, k " + k, body.has(k - 1, k, k, k), 1);
            due("within in y, k " + k, body.has(k, k + 1, k, k), 1);
            due("beyond in y, k " + k, body.has(k, k - 1, k, k), 0);
            due("beyond in z, k " + k, body.has(k, k, k + 1, k), 0);
            due("the point 0 of four planes, k " + k, Bodies.pointByAHair().has(0, 0, 0, k), 1);
            due("beside it, k " + k, Bodies.pointByAHair().has(0, 0, 1, k), 0);
            due("the half point, k " + k, Bodies.halfPoint().has(k / 2, k / 2, k / 2, k), 1 - k % 2);
        }
        FourierMotzkin full = Bodies.point(1, 2, 3);
        full.add(slope(-4, 0, 0), -4);
        due("seven bounds", full.has(20, 40, 60, 20), 1);
        full.move(6, -5);
        due("the seventh is broken", full.has(20, 40, 60, 20), 0);
    }

    private static void hasAPointAtTheWalls() {
        Checks.sentence("has: in the body (-10 .. 10 on each axis)");
        for (int k = 1; k <= 20; k++) {
            for (int sign = -1; sign <= 1; sign += 2) {
                int in = 10 * k * sign;
                int out = in + sign;
                due("x at the wall, k " + k, Bodies.cube().has(in, 0, 0, k), 1);
                due("x beyond, k " + k, Bodies.cube().has(out, 0, 0, k), 0);
                due("y at the wall, k " + k, Bodies.cube().has(0, in, 0, k), 1);
                due("y beyond, k " + k, Bodies.cube().has(0, out, 0, k), 0);
                due("z at the wall, k " + k, Bodies.cube().has(0, 0, in, k), 1);
                due("z beyond, k " + k, Bodies.cube().has(0, 0, out, k), 0);
                due("a corner, k " + k, Bodies.cube().has(in, -in, in, k), 1);
            }
        }
    }

    private static void hasNoPointOfNothing() {
        Checks.sentence("has: otherwise 0 (an empty body)");
        due("beyond a side", Bodies.nothing().has(-200, 0, 0, 20), 0);
        due("0 <= -1", Bodies.of(364, -1).has(0, 0, 0, 1), 0);
        due("by a hair", Bodies.emptyByAHair().has(0, 0, 0, 1), 0);
        due("a full list", Bodies.fullAndEmpty().has(0, 0, 0, 1), 0);
    }

    private static void hasScale() {
        Checks.sentence("has: -1 if k is not in 1 .. 20");
        for (int k : WRONG_KS) {
            due("k " + k, Bodies.cube().has(0, 0, 0, k), -1);
            due("k " + k + ", empty", Bodies.nothing().has(0, 0, 0, k), -1);
        }
        due("k 1", Bodies.cube().has(10, 10, 10, 1), 1);
        due("k 20", Bodies.cube().has(200, 200, 200, 20), 1);
    }

    private static void hasCoordinates() {
        Checks.sentence("has: -2 if x, y or z is not in -400 .. 400");
        for (int wrong : WRONG_COORDINATES) {
            for (int k = 1; k <= 20; k += 19) {
                due("x " + wrong, Bodies.cube().has(wrong, 0, 0, k), -2);
                due("y " + wrong, Bodies.cube().has(0, wrong, 0, k), -2);
                due("z " + wrong, Bodies.cube().has(0, 0, wrong, k), -2);
                due("all " + wrong, Bodies.cube().has(wrong, wrong, wrong, k), -2);
                due("empty, z " + wrong, Bodies.nothing().has(0, 0, wrong, k), -2);
            }
        }
        for (int last = -400; last <= 400; last += 800) {
            for (int k = 1; k <= 20; k += 19) {
                due("x " + last, Bodies.cube().has(last, 0, 0, k), 0);
                due("y " + last, Bodies.cube().has(0, last, 0, k), 0);
                due("z " + last, Bodies.cube().has(0, 0, last, k), 0);
            }
        }
    }

    private static void shadowOfAPoint() {
        Checks.sentence("shadow: 1 if the body has a point whose coordinates are p / k and q / k");
        for (int axis = 0; axis < 3; axis++) {
            for (int k = 1; k <= 20; k++) {
                FourierMotzkin zero = Bodies.pointByAHair();
                due("over the point, k " + k, zero.shadow(axis, 0, 0, k), 1);
                due("beside it in p, k " + k, zero.shadow(axis, 1, 0, k), 0);
                due("beside it in q, k " + k, zero.shadow(axis, 0, -1, k), 0);
                due("the half point, k " + k,
                        Bodies.halfPoint().shadow(axis, k / 2, k / 2, k), 1 - k % 2);
            }
        }
    }

    private static void shadowAtTheWalls() {
        Checks.sentence("shadow: the body has a point (-10 .. 10 on each axis)");
        for (int axis = 0; axis < 3; axis++) {
            for (int sign = -1; sign <= 1; sign += 2) {
                for (int k = 1; k <= 20; k++) {
                    int in = 10 * k * sign;
                    int out = in + sign;
                    due("p at the wall, k " + k, Bodies.cube().shadow(axis, in, 0, k), 1);
                    due("q at the wall, k " + k, Bodies.cube().shadow(axis, 0, in, k), 1);
                    due("both, k " + k, Bodies.cube().shadow(axis, in, -in, k), 1);
                    due("p beyond, k " + k, Bodies.cube().shadow(axis, out, 0, k), 0);
                    due("q beyond, k " + k, Bodies.cube().shadow(axis, 0, out, k), 0);
                }
            }
        }
    }

    /** Where sign * a - o <= d, the wall of a on the other side lets o be no less than -10 - d. */
    private static void shadowUpToTheFarWall() {
        Checks.sentence("shadow: the body has a point (the wall along the given axis)");
        for (int axis = 0; axis < 3; axis++) {
            for (int turn = 1; turn <= 2; turn++) {
                int other = (axis + turn) % 3;
                for (int sign = -1; sign <= 1; sign += 2) {
                    int lean = lean(axis, sign, other, -1);
                    for (int d = -20; d <= 0; d++) {
                        int last = 20 * (-10 - d);
                        String where = " along " + axis + ", d " + d;
                        due("at the wall" + where, shadowAt(lean, d, axis, other, last), 1);
                        due("beyond it" + where, shadowAt(lean, d, axis, other, last - 1), 0);
                    }
                }
            }
        }
    }

    /** The slope of sign times the coordinate along one axis and another factor along the other. */
    private static int lean(int axis, int sign, int other, int factor) {
        int[] factors = {0, 0, 0};
        factors[axis] = sign;
        factors[other] = factor;
        return slope(factors[0], factors[1], factors[2]);
    }

    /** The shadow along an axis over at / 20 on another one and 0 on the third. */
    private static int shadowAt(int slope, int d, int axis, int other, int at) {
        boolean isFirst = axis == 0 ? other == 1 : other == 0;
        return Bodies.of(slope, d).shadow(axis, isFirst ? at : 0, isFirst ? 0 : at, 20);
    }

    /** 4z - x <= 1 and 3z >= 1 meet where x is 1/3: the line over x has one point there. */
    private static void shadowAlongALine() {
        Checks.sentence("shadow: 1 if the body has a point, otherwise 0 (a line that just meets it)");
        FourierMotzkin body = Bodies.of(slope(-1, 0, 4), 1, slope(0, 0, -3), -1);
        for (int k = 3; k <= 18; k += 3) {
            due("x is 1/3, k " + k, body.shadow(2, k / 3, 0, k), 1);
            due("x is less, k " + k, body.shadow(2, k / 3 - 1, 0, k), 0);
        }
        due("x is 6/19", body.shadow(2, 6, 0, 19), 0);
        due("x is 7/20", body.shadow(2, 7, 0, 20), 1);
        due("x is 6/20", body.shadow(2, 6, 0, 20), 0);
        FourierMotzkin turned = Bodies.of(slope(4, -1, 0), 1, slope(-3, 0, 0), -1);
        due("y is 1/3, along x", turned.shadow(0, 1, 0, 3), 1);
        due("y is 6/19, along x", turned.shadow(0, 6, 0, 19), 0);
        FourierMotzkin other = Bodies.of(slope(0, 4, -1), 1, slope(0, -3, 0), -1);
        due("z is 1/3, along y", other.shadow(1, 0, 1, 3), 1);
        due("z is 6/19, along y", other.shadow(1, 0, 6, 19), 0);
    }

    /** All ways in which three planes across the axis can leave a stretch, a point or nothing. */
    private static void shadowBetweenThree() {
        Checks.sentence("shadow: 1 if the body has a point, otherwise 0 (between three planes)");
        for (int axis = 0; axis < 3; axis++) {
            for (int choice = 0; choice < 2 * 28 * 28 * 28; choice++) {
                int sign = choice % 2 == 0 ? 1 : -1;
                int one = choice / 2 % 28;
                int two = choice / 56 % 28;
                int three = choice / 1568;
                FourierMotzkin body = Bodies.of(Bodies.along(axis, sign * factor(one)), limit(one),
                        Bodies.along(axis, sign * factor(two)), limit(two),
                        Bodies.along(axis, -sign * factor(three)), limit(three));
                boolean meets = leaves(one, three) && leaves(two, three);
                due("choice " + choice + " along " + axis, body.shadow(axis, 0, 0, 1), meets ? 1 : 0);
            }
        }
    }

    private static int factor(int choice) {
        return choice % 4 + 1;
    }

    private static int limit(int choice) {
        return choice / 4 - 3;
    }

    /** f * t <= d and -g * t <= e leave some t if -e / g <= d / f. */
    private static boolean leaves(int upper, int lower) {
        return -limit(lower) * factor(upper) <= limit(upper) * factor(lower);
    }

    private static void shadowOfNothing() {
        Checks.sentence("shadow: otherwise 0 (an empty body)");
        for (int axis = 0; axis < 3; axis++) {
            due("beyond a side", Bodies.nothing().shadow(axis, 0, 0, 1), 0);
            due("beyond a side, at it", Bodies.nothing().shadow(axis, -10, -10, 1), 0);
            due("0 <= -1", Bodies.of(364, -1).shadow(axis, 0, 0, 1), 0);
            due("a full list", Bodies.fullAndEmpty().shadow(axis, 0, 0, 1), 0);
            due("by a hair", Bodies.emptyByAHair().shadow(axis, 0, 0, 1), 0);
        }
    }

    private static void shadowInTheOrderOfTheAxes() {
        Checks.sentence("shadow: the two axes other than the given one, in the order of the axes");
        int[][] due = {{2, 3}, {1, 3}, {1, 2}};
        for (int axis = 0; axis < 3; axis++) {
            for (int p = 1; p <= 3; p++) {
                for (int q = 1; q <= 3; q++) {
                    boolean over = p == due[axis][0] && q == due[axis][1];
                    due("of 1, 2, 3 along " + axis + " over " + p + ", " + q,
                            Bodies.point(1, 2, 3).shadow(axis, p, q, 1), over ? 1 : 0);
                }
            }
        }
    }

    private static void shadowAxis() {
        Checks.sentence("shadow: -1 if axis is not in 0 .. 2");
        for (int axis : WRONG_AXES) {
            due("axis " + axis, Bodies.cube().shadow(axis, 0, 0, 1), -1);
            due("axis " + axis + ", empty", Bodies.nothing().shadow(axis, 0, 0, 1), -1);
        }
        due("axis 0", Bodies.cube().shadow(0, 0, 0, 1), 1);
        due("axis 2", Bodies.cube().shadow(2, 0, 0, 1), 1);
    }

    private static void shadowScale() {
        Checks.sentence("shadow: -2 if k is not in 1 .. 20");
        for (int axis = 0; axis < 3; axis++) {
            for (int k : WRONG_KS) {
                due("k " + k, Bodies.cube().shadow(axis, 0, 0, k), -2);
                due("k " + k + ", empty", Bodies.nothing().shadow(axis, 0, 0, k), -2);
            }
            due("k 1", Bodies.cube().shadow(axis, 10, 10, 1), 1);
            due("k 20", Bodies.cube().shadow(axis, 200, 200, 20), 1);
        }
    }

    private static void shadowCoordinates() {
        Checks.sentence("shadow: -3 if p or q is not in -400 .. 400");
        for (int axis = 0; axis < 3; axis++) {
            for (int k = 1; k <= 20; k += 19) {
                for (int wrong : WRONG_COORDINATES) {
                    due("p " + wrong, Bodies.cube().shadow(axis, wrong, 0, k), -3);
                    due("q " + wrong, Bodies.cube().shadow(axis, 0, wrong, k), -3);
                    due("both " + wrong, Bodies.cube().shadow(axis, wrong, wrong, k), -3);
                    due("empty, q " + wrong, Bodies.nothing().shadow(axis, 0, wrong, k), -3);
                }
                for (int last = -400; last <= 400; last += 800) {
                    due("p " + last, Bodies.cube().shadow(axis, last, 0, k), 0);
                    due("q " + last, Bodies.cube().shadow(axis, 0, last, k), 0);
                }
            }
        }
    }

    private static void gridOfAll() {
        Checks.sentence("How many points with whole coordinates p and q have their shadow (all of them)");
        for (int axis = 0; axis < 3; axis++) {
            due("the cube", Bodies.cube().shadowGrid(axis), 441);
            due("a plane across the axis",
                    Bodies.of(Bodies.along(axis, 2), 1, Bodies.along(axis, -2), -1).shadowGrid(axis), 441);
            for (int other = 0; other < 3; other++) {
                int upTo9 = Bodies.of(Bodies.along(other, 1), 9).shadowGrid(axis);
                due("all but one row", upTo9, other == axis ? 441 : 420);
                int nearly10 = Bodies.of(Bodies.along(other, 4), 39).shadowGrid(axis);
                due("up to 39/4", nearly10, other == axis ? 441 : 420);
                int lastRow = Bodies.of(Bodies.along(other, -1), -10).shadowGrid(axis);
                due("the last row alone", lastRow, other == axis ? 441 : 21);
                int firstRow = Bodies.of(Bodies.along(other, 1), -10).shadowGrid(axis);
                due("the first row alone", firstRow, other == axis ? 441 : 21);
            }
        }
    }

    private static void gridOfOne() {
        Checks.sentence("How many points with whole coordinates p and q have their shadow (one of them)");
        for (int axis = 0; axis < 3; axis++) {
            due("the point 0", Bodies.pointByAHair().shadowGrid(axis), 1);
            for (int x = -10; x <= 10; x += 20) {
                for (int y = -10; y <= 10; y += 20) {
                    due("a corner", Bodies.point(x, y, 10).shadowGrid(axis), 1);
                    due("a corner", Bodies.point(x, y, -10).shadowGrid(axis), 1);
                }
            }
        }
        due("x = 1/2, y = 0, z = 0, along x", halfOf(0).shadowGrid(0), 1);
        due("x = 1/2, y = 0, z = 0, along y", halfOf(0).shadowGrid(1), 0);
        due("y = 1/2, x = 0, z = 0, along y", halfOf(1).shadowGrid(1), 1);
        due("y = 1/2, x = 0, z = 0, along z", halfOf(1).shadowGrid(2), 0);
        due("z = 1/2, x = 0, y = 0, along z", halfOf(2).shadowGrid(2), 1);
        due("z = 1/2, x = 0, y = 0, along x", halfOf(2).shadowGrid(0), 0);
    }

    /** The point with 1/2 along one axis and 0 along the others. */
    private static FourierMotzkin halfOf(int axis) {
        FourierMotzkin body = new FourierMotzkin();
        for (int each = 0; each < 3; each++) {
            int half = each == axis ? 1 : 0;
            body.add(Bodies.along(each, 2), half);
            body.add(Bodies.along(each, -2), -half);
        }
        return body;
    }

    private static void gridOfNone() {
        Checks.sentence("How many points with whole coordinates p and q have their shadow (none)");
        for (int axis = 0; axis < 3; axis++) {
            due("beyond a side", Bodies.nothing().shadowGrid(axis), 0);
            due("0 <= -1", Bodies.of(364, -1).shadowGrid(axis), 0);
            due("by a hair", Bodies.emptyByAHair().shadowGrid(axis), 0);
            due("a full list", Bodies.fullAndEmpty().shadowGrid(axis), 0);
            due("the half point", Bodies.halfPoint().shadowGrid(axis), 0);
            due("a sliver", Bodies.sliver().shadowGrid(axis), 0);
        }
    }

    /** Asked over all of -10 .. 10, and in a second object over the rows just outside. */
    private static void gridAsShadowTells() {
        Checks.sentence("shadowGrid: shadow(axis, p, q, 1) is 1");
        for (int axis = 0; axis < 3; axis++) {
            FourierMotzkin body = Bodies.full();
            int found = 0;
            for (int p = -10; p <= 10; p++) {
                for (int q = -10; q <= 10; q++) {
                    found += body.shadow(axis, p, q, 1);
                }
            }
            due("along " + axis, Bodies.full().shadowGrid(axis), found);
            FourierMotzkin outside = Bodies.cube();
            for (int at = -11; at <= 11; at++) {
                due("p 11", outside.shadow(axis, 11, at, 1), 0);
                due("p -11", outside.shadow(axis, -11, at, 1), 0);
                due("q 11", outside.shadow(axis, at, 11, 1), 0);
                due("q -11", outside.shadow(axis, at, -11, 1), 0);
            }
        }
    }

    private static void gridAxis() {
        Checks.sentence("shadowGrid: -1 if axis is not in 0 .. 2");
        for (int axis : WRONG_AXES) {
            due("axis " + axis, Bodies.cube().shadowGrid(axis), -1);
            due("axis " + axis + ", empty", Bodies.nothing().shadowGrid(axis), -1);
        }
        due("axis 0", Bodies.cube().shadowGrid(0), 441);
        due("axis 2", Bodies.cube().shadowGrid(2), 441);
    }
}
