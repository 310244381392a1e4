/** The boundary cases of promises 6 to 13 and 17, each sentence in a method of its own. */
final class BodyEdgeTest {
    private static final int[] WRONG_AXES = {Integer.MIN_VALUE, -3, -1, 3, 4, Integer.MAX_VALUE};
    private static final int[] WRONG_SLOPES = {Integer.MIN_VALUE, -729, -1, 729, 730, Integer.MAX_VALUE};

    public static void main(String[] args) {
        emptyOfNoPoints();
        emptyOtherwise();
        greatestCoordinate();
        mostTopOfAWrongAxis();
        mostTopOfNothing();
        mostBottomIsNought();
        leastCoordinate();
        leastTopOfAWrongAxis();
        leastTopOfNothing();
        leastBottomIsNought();
        followsIfAllKeep();
        followsInNothing();
        followsSlope();
        followsLimit();
        supportIsTheLeast();
        supportSlope();
        supportOfNothing();
        redundantIfTheSame();
        redundantInNothing();
        redundantOfAFullList();
        redundantOfNoBound();
        singlePoint();
        singleOtherwise();
        Checks.finish();
    }

    private static int slope(int a, int b, int c) {
        return Bodies.slope(a, b, c);
    }

    private static void due(String what, long got, long want) {
        Checks.due(what, got, want);
    }

    private static FourierMotzkin[] emptyBodies() {
        return new FourierMotzkin[] {
            Bodies.nothing(), Bodies.of(slope(0, 0, 0), -1), Bodies.emptyByAHair(),
            Bodies.fullAndEmpty(), Bodies.of(slope(4, 0, 0), 1, slope(-3, 0, 0), -1),
            Bodies.of(slope(1, 1, 1), 0, slope(-1, -1, -1), -1), Bodies.of(slope(-1, 1, 1), -31),
        };
    }

    private static void emptyOfNoPoints() {
        Checks.sentence("empty: 1 if the body has no points");
        for (FourierMotzkin body : emptyBodies()) {
            due("empty", body.empty(), 1);
        }
        for (int axis = 0; axis < 3; axis++) {
            for (int sign = -1; sign <= 1; sign += 2) {
                due("beyond a side", Bodies.of(Bodies.along(axis, sign), -11).empty(), 1);
                FourierMotzkin gap = Bodies.of(Bodies.along(axis, 4 * sign), 1,
                        Bodies.along(axis, -3 * sign), -1);
                due("between 1/4 and 1/3", gap.empty(), 1);
            }
        }
    }

    private static void emptyOtherwise() {
        Checks.sentence("empty: otherwise 0");
        due("the cube", Bodies.cube().empty(), 0);
        due("one point", Bodies.halfPoint().empty(), 0);
        due("one point of four planes", Bodies.pointByAHair().empty(), 0);
        due("a sliver", Bodies.sliver().empty(), 0);
        due("a full list", Bodies.full().empty(), 0);
        due("one plane", Bodies.of(slope(1, 1, 1), 0, slope(-1, -1, -1), 0).empty(), 0);
        for (int corner = 0; corner < 8; corner++) {
            due("one corner of the cube", Bodies.of(cornerSlope(corner, 1), -30).empty(), 0);
            due("beyond the corner", Bodies.of(cornerSlope(corner, 1), -31).empty(), 1);
        }
        FourierMotzkin again = Bodies.nothing();
        again.remove(0);
        due("the bound that made it empty is gone", again.empty(), 0);
        FourierMotzkin moved = Bodies.nothing();
        moved.move(0, -10);
        due("it is moved", moved.empty(), 0);
    }

    /** The slope of +-x +-y +-z; each of the 8 has its least value, -30, at one corner of the cube. */
    private static int cornerSlope(int corner, int factor) {
        return slope(corner % 2 == 0 ? factor : -factor, corner / 2 % 2 == 0 ? factor : -factor,
                corner / 4 == 0 ? factor : -factor);
    }

    private static void greatestCoordinate() {
        Checks.sentence("The greatest coordinate along an axis of a point of the body");
        for (int axis = 0; axis < 3; axis++) {
            due("at the wall", Bodies.of(Bodies.along(axis, 1), 10).mostTop(axis), 10);
            due("one inside", Bodies.of(Bodies.along(axis, 1), 9).mostTop(axis), 9);
            due("beyond the wall", Bodies.of(Bodies.along(axis, 1), 40).mostTop(axis), 10);
            due("at the other wall", Bodies.of(Bodies.along(axis, 1), -10).mostTop(axis), -10);
            due("one point", Bodies.halfPoint().mostTop(axis), 1);
            due("one point", Bodies.halfPoint().mostBottom(axis), 2);
        }
        due("a sliver's x", Bodies.sliver().mostTop(0), -7);
        due("a sliver's x", Bodies.sliver().mostBottom(0), 172);
        due("a sliver's y", Bodies.sliver().mostTop(1), -1);
        due("a sliver's y", Bodies.sliver().mostBottom(1), 196);
        due("a sliver's z", Bodies.sliver().mostTop(2), -49);
        due("a sliver's z", Bodies.sliver().mostBottom(2), 172);
    }

    private static void mostTopOfAWrongAxis() {
        Checks.sentence("mostTop: -1000000 if axis is not in 0 .. 2");
        for (int axis : WRONG_AXES) {
            due("axis " + axis, Bodies.cube().mostTop(axis), -1000000);
            due("axis " + axis + ", empty", Bodies.nothing().mostTop(axis), -1000000);
        }
        due("axis 0", Bodies.cube().mostTop(0), 10);
        due("axis 2", Bodies.cube().mostTop(2), 10);
    }

    private static void mostTopOfNothing() {
        Checks.sentence("mostTop: -2000000 if the body is empty");
        for (FourierMotzkin body : emptyBodies()) {
            for (int axis = 0; axis < 3; axis++) {
                due("axis " + axis, body.mostTop(axis), -2000000);
            }
        }
        due("one point left", Bodies.pointByAHair().mostTop(0), 0);
    }

    private static void mostBottomIsNought() {
        Checks.sentence("mostBottom: 0 if axis is not in 0 .. 2 or the body is empty");
        for (int axis : WRONG_AXES) {
            due("axis " + axis, Bodies.cube().mostBottom(axis), 0);
            due("axis " + axis + ", empty", Bodies.nothing().mostBottom(axis), 0);
        }
        for (FourierMotzkin body : emptyBodies()) {
            for (int axis = 0; axis < 3; axis++) {
                due("empty, axis " + axis, body.mostBottom(axis), 0);
            }
        }
        due("axis 0", Bodies.cube().mostBottom(0), 1);
        due("axis 2", Bodies.cube().mostBottom(2), 1);
        due("one point left", Bodies.pointByAHair().mostBottom(0), 1);
    }

    private static void leastCoordinate() {
        Checks.sentence("The least coordinate along an axis of a point of the body");
        for (int axis = 0; axis < 3; axis++) {
            due("at the wall", Bodies.of(Bodies.along(axis, -1), 10).leastTop(axis), -10);
            due("one inside", Bodies.of(Bodies.along(axis, -1), 9).leastTop(axis), -9);
            due("beyond the wall", Bodies.of(Bodies.along(axis, -1), 40).leastTop(axis), -10);
            due("at the other wall", Bodies.of(Bodies.along(axis, -1), -10).leastTop(axis), 10);
            due("one point", Bodies.halfPoint().leastTop(axis), 1);
            due("one point", Bodies.halfPoint().leastBottom(axis), 2);
        }
        due("a sliver's x", Bodies.sliver().leastTop(0), -1);
        due("a sliver's x", Bodies.sliver().leastBottom(0), 24);
        due("a sliver's y", Bodies.sliver().leastTop(1), -1);
        due("a sliver's y", Bodies.sliver().leastBottom(1), 168);
        due("a sliver's z", Bodies.sliver().leastTop(2), -2);
        due("a sliver's z", Bodies.sliver().leastBottom(2), 7);
    }

    private static void leastTopOfAWrongAxis() {
        Checks.sentence("leastTop: -1000000 if axis is not in 0 .. 2");
        for (int axis : WRONG_AXES) {
            due("axis " + axis, Bodies.cube().leastTop(axis), -1000000);
            due("axis " + axis + ", empty", Bodies.nothing().leastTop(axis), -1000000);
        }
        due("axis 0", Bodies.cube().leastTop(0), -10);
        due("axis 2", Bodies.cube().leastTop(2), -10);
    }

    private static void leastTopOfNothing() {
        Checks.sentence("leastTop: -2000000 if the body is empty");
        for (FourierMotzkin body : emptyBodies()) {
            for (int axis = 0; axis < 3; axis++) {
                due("axis " + axis, body.leastTop(axis), -2000000);
            }
        }
        due("one point left", Bodies.pointByAHair().leastTop(0), 0);
    }

    private static void leastBottomIsNought() {
        Checks.sentence("leastBottom: 0 if axis is not in 0 .. 2 or the body is empty");
        for (int axis : WRONG_AXES) {
            due("axis " + axis, Bodies.cube().leastBottom(axis), 0);
            due("axis " + axis + ", empty", Bodies.nothing().leastBottom(axis), 0);
        }
        for (FourierMotzkin body : emptyBodies()) {
            for (int axis = 0; axis < 3; axis++) {
                due("empty, axis " + axis, body.leastBottom(axis), 0);
            }
        }
        due("axis 0", Bodies.cube().leastBottom(0), 1);
        due("axis 2", Bodies.cube().leastBottom(2), 1);
        due("one point left", Bodies.pointByAHair().leastBottom(0), 1);
    }

    private static void followsIfAllKeep() {
        Checks.sentence("follows: 1 if all points of the body keep the bound with this slope and d");
        for (int corner = 0; corner < 8; corner++) {
            due("the cube up to a corner", Bodies.cube().follows(cornerSlope(corner, 4), 120), 1);
            due("all but the corner", Bodies.cube().follows(cornerSlope(corner, 4), 119), 0);
        }
        due("10 is the most", Bodies.cube().follows(slope(1, 0, 0), 10), 1);
        due("9 is less", Bodies.cube().follows(slope(1, 0, 0), 9), 0);
        due("a point keeps what it lies on", Bodies.halfPoint().follows(slope(-4, -4, -4), -6), 1);
        due("and nothing tighter", Bodies.halfPoint().follows(slope(-4, -4, -4), -7), 0);
        due("3/2 <= 2", Bodies.halfPoint().follows(slope(1, 1, 1), 2), 1);
        due("3/2 <= 1", Bodies.halfPoint().follows(slope(1, 1, 1), 1), 0);
        due("a sliver's x <= 0", Bodies.sliver().follows(slope(4, 0, 0), 0), 1);
        due("a sliver's -x <= 0", Bodies.sliver().follows(slope(-4, 0, 0), 0), 0);
        due("7 bounds, its own last", Bodies.full().follows(slope(0, 0, -2), 11), 1);
    }

    private static void followsInNothing() {
        Checks.sentence("follows: (so also if it is empty)");
        for (FourierMotzkin body : emptyBodies()) {
            due("the tightest", body.follows(728, -1000), 1);
            due("the tightest of the other side", body.follows(0, -1000), 1);
            due("0 <= -1000", body.follows(364, -1000), 1);
            due("the loosest", body.follows(728, 1000), 1);
            due("a wrong slope all the same", body.follows(729, 0), -1);
            due("a wrong d all the same", body.follows(0, -1001), -2);
        }
        due("one point left", Bodies.pointByAHair().follows(364, -1), 0);
    }

    private static void followsSlope() {
        Checks.sentence("follows: -1 if slope is not in 0 .. 728");
        for (int slope : WRONG_SLOPES) {
            due("slope " + slope, Bodies.cube().follows(slope, 0), -1);
        }
        due("slope 0", Bodies.cube().follows(0, 120), 1);
        due("slope 728", Bodies.cube().follows(728, 120), 1);
    }

    private static void followsLimit() {
        Checks.sentence("follows: -2 if d is not in -1000 .. 1000");
        int[] wrong = {Integer.MIN_VALUE, -1001, 1001, Integer.MAX_VALUE};
        for (int d : wrong) {
            due("d " + d, Bodies.cube().follows(0, d), -2);
            due("d " + d + " of a flat bound", Bodies.cube().follows(364, d), -2);
        }
        due("d -1000", Bodies.cube().follows(0, -1000), 0);
        due("d 1000", Bodies.cube().follows(0, 1000), 1);
        due("d -41", Bodies.cube().follows(0, -41), 0);
        due("d 41", Bodies.cube().follows(slope(4, 0, 0), 41), 1);
        due("d -121 at the least corner", Bodies.of(slope(1, 1, 1), -30).follows(728, -121), 0);
        due("d -120 at the least corner", Bodies.of(slope(1, 1, 1), -30).follows(728, -120), 1);
    }

    /** The least d is the most of the sum, rounded up: also where the sum is below nought. */
    private static void supportIsTheLeast() {
        Checks.sentence("The least whole d such that all points of the body keep the bound");
        for (int factor = 1; factor <= 4; factor++) {
            for (int d = -10 * factor; d <= 10 * factor; d++) {
                int roundedUp = -Math.floorDiv(-d, factor);
                due("of " + d + "/" + factor,
                        Bodies.of(slope(0, factor, 0), d).support(slope(0, 1, 0)), roundedUp);
                due("of " + d + "/" + factor + ", from below",
                        Bodies.of(slope(0, 0, -factor), d).support(slope(0, 0, -1)), roundedUp);
            }
        }
        for (int corner = 0; corner < 8; corner++) {
            due("the most there is", Bodies.cube().support(cornerSlope(corner, 4)), 120);
            due("the least there is",
                    Bodies.of(cornerSlope(corner, 1), -30).support(cornerSlope(corner, 4)), -120);
            due("nearly the least",
                    Bodies.of(cornerSlope(corner, 1), -29).support(cornerSlope(corner, 4)), -116);
        }
        due("-7/172 up", Bodies.sliver().support(slope(1, 0, 0)), 0);
        due("1/24 up", Bodies.sliver().support(slope(-1, 0, 0)), 1);
        due("1/168 up", Bodies.sliver().support(slope(0, -1, 0)), 1);
        due("0 stays", Bodies.pointByAHair().support(slope(-1, 0, 0)), 0);
        due("no slope", Bodies.sliver().support(slope(0, 0, 0)), 0);
    }

    private static void supportSlope() {
        Checks.sentence("support: -1000 if slope is not in 0 .. 728");
        for (int slope : WRONG_SLOPES) {
            due("slope " + slope, Bodies.cube().support(slope), -1000);
            due("slope " + slope + ", empty", Bodies.nothing().support(slope), -1000);
        }
        due("slope 0", Bodies.cube().support(0), 120);
        due("slope 728", Bodies.cube().support(728), 120);
    }

    private static void supportOfNothing() {
        Checks.sentence("support: -2000 if the body is empty");
        for (FourierMotzkin body : emptyBodies()) {
            due("slope 0", body.support(0), -2000);
            due("slope 364", body.support(364), -2000);
            due("slope 728", body.support(728), -2000);
        }
        due("one point left", Bodies.pointByAHair().support(728), 0);
    }

    private static void redundantIfTheSame() {
        Checks.sentence("redundant: 1 if the body would be just the same without the bound, otherwise 0");
        for (int corner = 0; corner < 8; corner++) {
            due("touches a corner", Bodies.of(cornerSlope(corner, 1), 30).redundant(0), 1);
            due("cuts the corner off", Bodies.of(cornerSlope(corner, 1), 29).redundant(0), 0);
            due("leaves the far corner", Bodies.of(cornerSlope(corner, 1), -30).redundant(0), 0);
        }
        int first = slope(3, 0, 0);
        due("7/3 <= 5/2", Bodies.of(first, 7, slope(2, 0, 0), 5).redundant(1), 1);
        due("7/3 > 2", Bodies.of(first, 7, slope(2, 0, 0), 4).redundant(1), 0);
        due("the first is weaker then", Bodies.of(first, 7, slope(2, 0, 0), 4).redundant(0), 1);
        FourierMotzkin twice = Bodies.of(slope(2, 2, 2), 2, slope(1, 1, 1), 1);
        due("the same half twice, the first", twice.redundant(0), 1);
        due("the same half twice, the second", twice.redundant(1), 1);
        for (int bound = 0; bound < 4; bound++) {
            due("one of four around a point", Bodies.pointByAHair().redundant(bound), 0);
            due("one of four around a sliver", Bodies.sliver().redundant(bound), 0);
        }
        FourierMotzkin held = Bodies.pointByAHair();
        held.add(slope(1, 0, 0), 0);
        due("a fifth through the point", held.redundant(4), 1);
        held.move(4, -1);
        due("a fifth beside the point", held.redundant(4), 0);
    }

    private static void redundantInNothing() {
        Checks.sentence("redundant: 1 if the body would be just the same without the bound (empty)");
        for (int bound = 0; bound < 4; bound++) {
            due("each of four makes it empty", Bodies.emptyByAHair().redundant(bound), 0);
        }
        due("the only one that none keeps", Bodies.of(364, -1).redundant(0), 0);
        due("one of two that none keeps", Bodies.of(364, -1, 364, -40).redundant(0), 1);
        due("the other of the two", Bodies.of(364, -1, 364, -40).redundant(1), 1);
        due("a cut beside it", Bodies.of(364, -1, slope(1, 0, 0), 0).redundant(1), 1);
        due("it beside a cut", Bodies.of(364, -1, slope(1, 0, 0), 0).redundant(0), 0);
        due("beyond the cube", Bodies.of(slope(1, 0, 0), -11).redundant(0), 0);
        due("beyond it twice", Bodies.of(slope(1, 0, 0), -11, slope(1, 0, 0), -12).redundant(1), 1);
        due("kept by none in a full list", Bodies.fullAndEmpty().redundant(3), 0);
        due("another of that list", Bodies.fullAndEmpty().redundant(0), 1);
    }

    private static void redundantOfAFullList() {
        Checks.sentence("redundant: otherwise 0 (a full list)");
        FourierMotzkin box = Bodies.point(1, 2, 3);
        box.add(slope(1, 1, 1), 6);
        due("the seventh touches the point", box.redundant(6), 1);
        for (int bound = 0; bound < 6; bound++) {
            due("bound " + bound + " of the point", box.redundant(bound), bound % 2 == 0 ? 1 : 0);
        }
        box.move(6, 5);
        due("the seventh is beside the point", box.redundant(6), 0);
        FourierMotzkin same = Bodies.of(364, 0, 364, 0, 364, 0, 364, 0, 364, 0, 364, 0, 364, 0);
        for (int bound = 0; bound < 7; bound++) {
            due("seven times 0 <= 0", same.redundant(bound), 1);
        }
    }

    private static void redundantOfNoBound() {
        Checks.sentence("redundant: -1 if bound is not good");
        int[] wrong = {Integer.MIN_VALUE, -6, -1, 7, 8, 13, Integer.MAX_VALUE};
        for (int bound : wrong) {
            due("redundant(" + bound + ")", Bodies.full().redundant(bound), -1);
            due("redundant(" + bound + ") of none", Bodies.cube().redundant(bound), -1);
            due("redundant(" + bound + "), empty", Bodies.fullAndEmpty().redundant(bound), -1);
        }
        due("redundant(0) of none", Bodies.cube().redundant(0), -1);
        due("redundant(1) of one", Bodies.nothing().redundant(1), -1);
    }

    private static void singlePoint() {
        Checks.sentence("single: 1 if the body has just one point");
        due("the half point", Bodies.halfPoint().single(), 1);
        due("four planes", Bodies.pointByAHair().single(), 1);
        for (int corner = 0; corner < 8; corner++) {
            due("a corner of the cube", Bodies.of(cornerSlope(corner, 1), -30).single(), 1);
        }
        FourierMotzkin side = Bodies.of(slope(1, 0, 0), -10, slope(0, 2, 0), 1, slope(0, -2, 0), -1,
                slope(0, 0, 3), 1, slope(0, 0, -3), -1);
        due("on a side of the cube", side.single(), 1);
        FourierMotzkin uneven = Bodies.of(slope(2, 0, 0), 1, slope(-4, 0, 0), -2, slope(0, 2, 0), 1,
                slope(0, -4, 0), -2, slope(0, 0, 2), 1, slope(0, 0, -4), -2);
        due("planes whose factors differ", uneven.single(), 1);
        FourierMotzkin seven = Bodies.point(-1, 0, 1);
        seven.add(slope(1, 1, 1), 0);
        due("with a seventh bound through it", seven.single(), 1);
        FourierMotzkin flat = Bodies.pointByAHair();
        flat.add(slope(0, 0, 0), 0);
        due("with 0 <= 0", flat.single(), 1);
    }

    private static void singleOtherwise() {
        Checks.sentence("single: otherwise 0");
        due("the cube", Bodies.cube().single(), 0);
        due("a sliver", Bodies.sliver().single(), 0);
        for (FourierMotzkin body : emptyBodies()) {
            due("no point", body.single(), 0);
        }
        for (int corner = 0; corner < 8; corner++) {
            due("more than a corner", Bodies.of(cornerSlope(corner, 1), -29).single(), 0);
            due("less than a corner", Bodies.of(cornerSlope(corner, 1), -31).single(), 0);
        }
        for (int bound = 0; bound < 6; bound++) {
            FourierMotzkin line = Bodies.halfPoint();
            line.remove(bound);
            due("a line, bound " + bound + " is gone", line.single(), 0);
        }
        for (int axis = 0; axis < 3; axis++) {
            FourierMotzkin line = Bodies.halfPoint();
            line.remove(2 * axis);
            line.add(Bodies.along(axis, 3), 2);
            due("from 1/2 to 2/3 along " + axis, line.single(), 0);
        }
        due("a plane", Bodies.of(slope(1, 2, 3), 0, slope(-1, -2, -3), 0).single(), 0);
    }
}
