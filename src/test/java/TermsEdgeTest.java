/** The boundary cases in the sentences under "What it is" and "Terms", each in a method of its own. */
final class TermsEdgeTest {
    public static void main(String[] args) {
        callsOfAnObject();
        factorsOfABound();
        limitOfABound();
        keptAtEquality();
        rationalPoints();
        flatBoundKeptByAll();
        flatBoundKeptByNone();
        flatBoundOfAQuestion();
        sevenBounds();
        walls();
        wallsAsBounds();
        axes();
        slopes();
        slopesOfQuestions();
        lowestTerms();
        positiveDenominator();
        nought();
        Checks.finish();
    }

    private static int slope(int a, int b, int c) {
        return Bodies.slope(a, b, c);
    }

    private static void due(String what, long got, long want) {
        Checks.due(what, got, want);
    }

    /** The 512th call is the last that counts. */
    private static void callsOfAnObject() {
        Checks.sentence("An object is used for at most 512 calls after it has been made");
        FourierMotzkin body = new FourierMotzkin();
        for (int call = 0; call < 510; call += 2) {
            due("add as call " + (call + 1), body.add(slope(1, 0, 0), call % 40), 0);
            due("remove as call " + (call + 2), body.remove(0), 0);
        }
        due("call 511", body.add(slope(2, 0, 0), 7), 0);
        due("call 512", body.mostTop(0), 7);

        FourierMotzkin asked = Bodies.full();
        for (int call = 7; call < 511; call++) {
            due("redundant as call " + (call + 1), asked.redundant(7), -1);
        }
        due("call 512 after questions", asked.bounds(), 7);
    }

    private static void factorsOfABound() {
        Checks.sentence("whole numbers a, b, c in -4 .. 4");
        for (int axis = 0; axis < 3; axis++) {
            for (int factor = 1; factor <= 4; factor++) {
                FourierMotzkin above = Bodies.of(Bodies.along(axis, factor), factor);
                due("most, factor " + factor, above.mostTop(axis), 1);
                due("least, factor " + factor, above.leastTop(axis), -10);
                FourierMotzkin below = Bodies.of(Bodies.along(axis, -factor), factor);
                due("most, factor -" + factor, below.mostTop(axis), 10);
                due("least, factor -" + factor, below.leastTop(axis), -1);
            }
        }
        for (int sign = -1; sign <= 1; sign += 2) {
            FourierMotzkin body = Bodies.of(slope(4 * sign, 4 * sign, 4 * sign), 4);
            due("1/3 each, on 4x + 4y + 4z <= 4", body.has(sign, sign, sign, 3), 1);
            due("7/20 each, beyond it", body.has(7 * sign, 7 * sign, 7 * sign, 20), 0);
        }
    }

    private static void limitOfABound() {
        Checks.sentence("and d in -40 .. 40");
        for (int d = -40; d <= 40; d++) {
            FourierMotzkin body = Bodies.of(slope(0, 4, 0), d);
            due("d " + d + ", on it", body.has(0, 5 * d, 0, 20), 1);
            due("d " + d + ", beyond it", body.has(0, 5 * d + 1, 0, 20), 0);
            due("d " + d + " as it was given", body.move(0, 0), d);
        }
    }

    private static void keptAtEquality() {
        Checks.sentence("is kept by a point (x, y, z) of rational numbers if a*x + b*y + c*z <= d");
        FourierMotzkin body = Bodies.of(slope(1, -2, 3), -4);
        due("x - 2y + 3z is -4", body.has(1, 1, -1, 1), 1);
        due("-4 - 1/20", body.has(19, 20, -20, 20), 1);
        due("-4 + 1/20", body.has(21, 20, -20, 20), 0);
        due("its own bound follows", body.follows(slope(1, -2, 3), -4), 1);
        due("a tighter one doesn't", body.follows(slope(1, -2, 3), -5), 0);
        due("support", body.support(slope(1, -2, 3)), -4);
    }

    private static void rationalPoints() {
        Checks.sentence("a point (x, y, z) of rational numbers");
        due("not empty", Bodies.halfPoint().empty(), 0);
        due("one point", Bodies.halfPoint().single(), 1);
        due("x is 1/2", Bodies.halfPoint().mostTop(0), 1);
        due("x is 1/2", Bodies.halfPoint().mostBottom(0), 2);
        due("a sliver with no coordinate p / k for k up to 20", Bodies.sliver().empty(), 0);
    }

    private static void flatBoundKeptByAll() {
        Checks.sentence("with a = b = c = 0 it is kept by all points if d >= 0");
        for (int d = 0; d <= 40; d++) {
            FourierMotzkin body = Bodies.of(slope(0, 0, 0), d);
            String what = "0 <= " + d + ", ";
            due(what + "empty", body.empty(), 0);
            due(what + "redundant", body.redundant(0), 1);
            due(what + "has a corner", body.has(-10, 10, 10, 1), 1);
            due(what + "has a point outside", body.has(-10, 10, 11, 1), 0);
            due(what + "most", body.mostTop(2), 10);
            due(what + "support", body.support(slope(0, 0, 1)), 10);
            due(what + "shadow", body.shadow(1, 10, -10, 1), 1);
            due(what + "grid", body.shadowGrid(0), 441);
            due(what + "single", body.single(), 0);
        }
    }

    private static void flatBoundKeptByNone() {
        Checks.sentence("and by none otherwise");
        for (int d = -40; d < 0; d++) {
            FourierMotzkin body = Bodies.of(slope(0, 0, 0), d);
            String what = "0 <= " + d + ", ";
            due(what + "empty", body.empty(), 1);
            due(what + "redundant", body.redundant(0), 0);
            due(what + "has a point", body.has(0, 0, 0, 1), 0);
            due(what + "most", body.mostTop(2), -2000000);
            due(what + "least", body.leastTop(0), -2000000);
            due(what + "support", body.support(slope(0, 0, 1)), -2000);
            due(what + "shadow", body.shadow(1, 0, 0, 1), 0);
            due(what + "grid", body.shadowGrid(0), 0);
            due(what + "single", body.single(), 0);
        }
    }

    private static void flatBoundOfAQuestion() {
        Checks.sentence("with a = b = c = 0 it is kept by all points if d >= 0 and by none otherwise");
        FourierMotzkin body = Bodies.cube();
        due("0 <= 0", body.follows(slope(0, 0, 0), 0), 1);
        due("0 <= 1000", body.follows(slope(0, 0, 0), 1000), 1);
        due("0 <= -1", body.follows(slope(0, 0, 0), -1), 0);
        due("0 <= -1000", body.follows(slope(0, 0, 0), -1000), 0);
        due("the least d", body.support(slope(0, 0, 0)), 0);
        due("the least d of one point", Bodies.halfPoint().support(slope(0, 0, 0)), 0);
        due("0 <= -1 in no points", Bodies.nothing().follows(slope(0, 0, 0), -1), 1);
    }

    private static void sevenBounds() {
        Checks.sentence("There is a list of at most 7 bounds, numbered 0, 1, 2, .. in their order");
        Checks.due("the list", Listing.of(Bodies::full), Listing.due(
                slope(3, 2, -1), 4, slope(-1, 2, 2), 7, slope(0, -3, 1), -2, slope(4, -4, 1), 30,
                slope(-4, 0, 3), 40, slope(1, 1, 1), 9, slope(0, 0, -2), 11));
        FourierMotzkin body = Bodies.halfPoint();
        due("the seventh", body.add(slope(1, 1, 1), 1), 6);
        due("the seventh is kept", body.empty(), 1);
        due("an eighth", body.add(slope(0, 0, 0), 0), -3);
        due("the seventh is the last", body.remove(6), 6);
        due("one point again", body.single(), 1);
    }

    private static void walls() {
        Checks.sentence("-10 <= x <= 10, -10 <= y <= 10 and -10 <= z <= 10");
        FourierMotzkin body = Bodies.cube();
        for (int axis = 0; axis < 3; axis++) {
            for (int sign = -1; sign <= 1; sign += 2) {
                int[] last = {0, 0, 0};
                last[axis] = 200 * sign;
                int[] first = {0, 0, 0};
                first[axis] = 201 * sign;
                due("10 along " + axis, body.has(last[0], last[1], last[2], 20), 1);
                due("10 + 1/20 along " + axis, body.has(first[0], first[1], first[2], 20), 0);
                due("support", body.support(Bodies.along(axis, sign)), 10);
            }
            due("most", body.mostTop(axis), 10);
            due("its denominator", body.mostBottom(axis), 1);
            due("least", body.leastTop(axis), -10);
            due("its denominator", body.leastBottom(axis), 1);
        }
    }

    private static void wallsAsBounds() {
        Checks.sentence("THE BODY is the set of all points with -10 <= x <= 10");
        for (int axis = 0; axis < 3; axis++) {
            for (int sign = -1; sign <= 1; sign += 2) {
                int wall = Bodies.along(axis, sign);
                due("a wall follows", Bodies.cube().follows(wall, 10), 1);
                due("a plane inside doesn't", Bodies.cube().follows(wall, 9), 0);
                due("a wall as bound", Bodies.of(wall, 10).redundant(0), 1);
                due("a plane inside as bound", Bodies.of(wall, 9).redundant(0), 0);
                due("one side of the cube", Bodies.of(wall, -10).empty(), 0);
                due("one side has more points", Bodies.of(wall, -10).single(), 0);
                due("beyond the side", Bodies.of(wall, -11).empty(), 1);
            }
        }
    }

    private static void axes() {
        Checks.sentence("The AXES are 0 for x, 1 for y, 2 for z");
        FourierMotzkin body = Bodies.of(slope(1, 0, 0), 1, slope(0, 1, 0), 2, slope(0, 0, 1), 3,
                slope(-1, 0, 0), 4, slope(0, -1, 0), 5, slope(0, 0, -1), 6);
        for (int axis = 0; axis < 3; axis++) {
            due("most along " + axis, body.mostTop(axis), axis + 1);
            due("least along " + axis, body.leastTop(axis), -axis - 4);
        }
    }

    private static void slopes() {
        Checks.sentence("written as one number 81 * (a + 4) + 9 * (b + 4) + (c + 4), 0 .. 728; its SLOPE");
        for (int slope = 0; slope <= 728; slope++) {
            int given = slope;
            Checks.due("slope " + slope, Listing.of(() -> Bodies.of(given, 3)), Listing.due(slope, 3));
        }
        due("0 is (-4, -4, -4)", Bodies.of(0, 0).has(1, -1, 0, 1), 1);
        due("8 is (-4, -4, 4)", Bodies.of(8, 0).has(1, 0, 1, 1), 1);
        due("8 is (-4, -4, 4)", Bodies.of(8, 0).has(19, 0, 20, 20), 0);
        due("9 is (-4, -3, -4)", Bodies.of(9, 0).has(-3, 4, 0, 1), 1);
        due("9 is (-4, -3, -4)", Bodies.of(9, 0).has(-61, 80, 0, 20), 0);
        due("80 is (-4, 4, 4)", Bodies.of(80, 0).has(1, 1, 0, 1), 1);
        due("81 is (-3, -4, -4)", Bodies.of(81, 0).has(4, -3, 0, 1), 1);
        due("728 is (4, 4, 4)", Bodies.of(728, 40).has(10, 0, 0, 1), 1);
        due("728 is (4, 4, 4)", Bodies.of(728, 39).has(10, 0, 0, 1), 0);
    }

    private static void slopesOfQuestions() {
        Checks.sentence("The three numbers a, b, c of a bound are written as one number");
        int[][] ends = {{10, 0, 0}, {0, 10, 0}, {0, 0, 10}};
        for (int slope = 0; slope <= 728; slope++) {
            int[] factors = {slope / 81 - 4, slope % 81 / 9 - 4, slope % 9 - 4};
            for (int axis = 0; axis < 3; axis++) {
                FourierMotzkin body = Bodies.point(ends[axis][0], ends[axis][1], ends[axis][2]);
                int sum = 10 * factors[axis];
                due("support(" + slope + ")", body.support(slope), sum);
                due("follows(" + slope + ", " + sum + ")", body.follows(slope, sum), 1);
                due("follows(" + slope + ", one less)", body.follows(slope, sum - 1), 0);
            }
        }
    }

    /** Every fraction d / factor that one bound can set inside the cube, from above and from below. */
    private static void lowestTerms() {
        Checks.sentence("Fractions are asked for by numerator and denominator in lowest terms");
        for (int factor = 1; factor <= 4; factor++) {
            for (int d = -10 * factor; d <= 10 * factor; d++) {
                int divisor = greatestDivisor(d, factor);
                for (int axis = 0; axis < 3; axis++) {
                    FourierMotzkin above = Bodies.of(Bodies.along(axis, factor), d);
                    due(d + "/" + factor + " as most", above.mostTop(axis), d / divisor);
                    due(d + "/" + factor + " as most", above.mostBottom(axis), factor / divisor);
                    FourierMotzkin below = Bodies.of(Bodies.along(axis, -factor), -d);
                    due(d + "/" + factor + " as least", below.leastTop(axis), d / divisor);
                    due(d + "/" + factor + " as least", below.leastBottom(axis), factor / divisor);
                }
            }
        }
        FourierMotzkin sliver = Bodies.sliver();
        long[] got = {
            sliver.mostTop(0), sliver.mostBottom(0), sliver.leastTop(0), sliver.leastBottom(0),
            sliver.mostTop(1), sliver.mostBottom(1), sliver.leastTop(1), sliver.leastBottom(1),
            sliver.mostTop(2), sliver.mostBottom(2), sliver.leastTop(2), sliver.leastBottom(2),
        };
        long[] want = {-7, 172, -1, 24, -1, 196, -1, 168, -49, 172, -2, 7};
        for (int i = 0; i < want.length; i++) {
            due("the sliver's number " + i, got[i], want[i]);
        }
    }

    /** A crossing's determinant is below nought for half of the orders in which planes are listed. */
    private static void positiveDenominator() {
        Checks.sentence("denominator positive");
        int[][] planes = {{slope(3, 4, 3), -1}, {slope(-3, -3, 4), -1}, {slope(-4, 4, -3), 1},
            {slope(4, -4, -4), 1}};
        for (int turn = 0; turn < 24; turn++) {
            int[] order = order(turn);
            FourierMotzkin body = new FourierMotzkin();
            for (int place : order) {
                body.add(planes[place][0], planes[place][1]);
            }
            due("most, order " + turn, body.mostTop(0), -7);
            due("its denominator, order " + turn, body.mostBottom(0), 172);
            due("least, order " + turn, body.leastTop(1), -1);
            due("its denominator, order " + turn, body.leastBottom(1), 168);
        }
    }

    private static void nought() {
        Checks.sentence("0 is 0 / 1");
        for (int axis = 0; axis < 3; axis++) {
            for (int factor = 1; factor <= 4; factor++) {
                FourierMotzkin body = Bodies.of(Bodies.along(axis, factor), 0,
                        Bodies.along(axis, -factor), 0);
                due("most", body.mostTop(axis), 0);
                due("its denominator", body.mostBottom(axis), 1);
                due("least", body.leastTop(axis), 0);
                due("its denominator", body.leastBottom(axis), 1);
            }
            FourierMotzkin body = Bodies.pointByAHair();
            due("most of four planes", body.mostTop(axis), 0);
            due("its denominator", body.mostBottom(axis), 1);
            due("least of four planes", body.leastTop(axis), 0);
            due("its denominator", body.leastBottom(axis), 1);
        }
    }

    private static int greatestDivisor(int top, int bottom) {
        int divisor = bottom;
        while (top % divisor != 0 || bottom % divisor != 0) {
            divisor--;
        }
        return divisor;
    }

    /** One of the 24 orders of 0, 1, 2, 3. */
    private static int[] order(int turn) {
        int[] order = {0, 1, 2, 3};
        int rest = turn;
        for (int place = 0; place < 3; place++) {
            int other = place + rest % (4 - place);
            rest /= 4 - place;
            int moved = order[place];
            order[place] = order[other];
            order[other] = moved;
        }
        return order;
    }
}
