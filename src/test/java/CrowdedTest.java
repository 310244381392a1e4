/**
 * Seven planes through one corner of the cube, or along its diagonal: as many planes as there can be
 * cross in one point. The answers due are told by hand or by the Reference.
 */
final class CrowdedTest {
    private static final int RUNS = 400;

    /** No three of these and of the three walls share a line, so all 120 threes cross in the corner. */
    private static final int[][] AROUND_A_CORNER = {
        {-1, -1, -1}, {-4, 4, 1}, {-1, -2, 1}, {-3, -1, 4}, {2, 3, -3}, {-3, 1, 2}, {1, -3, 4},
    };

    /** These touch the cube in the corner, four of them in an edge too, and cut nothing off. */
    private static final int[][] OUTSIDE_A_CORNER = {
        {0, 1, 2}, {0, 1, 3}, {1, 0, 2}, {1, 1, 1}, {1, 2, 1}, {1, 3, 0}, {2, 1, 1},
    };

    /**
     * The diagonal of the cube lies in five of the planes, at last in all seven: 159 and 174 threes
     * cross in points of the body, the most that a search found.
     */
    private static final int[][][] AT_A_DIAGONAL = {
        {{-2, 3, -1, 0}, {1, 2, -3, 0}, {-1, 2, -1, 0}, {-1, 3, -2, 0}, {2, 0, -1, 10},
            {1, -1, -1, 10}, {1, 1, -2, 0}},
        {{-2, 1, 1, 0}, {-3, 2, 1, 0}, {-4, 1, 3, 0}, {-4, 3, 1, 0}, {2, -4, 4, 20},
            {-3, -1, 4, 0}, {0, -4, 3, 10}},
        {{1, -3, 2, 0}, {4, -3, -1, 0}, {1, -2, 1, 0}, {3, -2, -1, 0}, {4, -2, -2, 0},
            {1, 0, -2, 10}, {2, 1, -2, 10}},
        {{4, -3, -1, 0}, {2, 2, -4, 0}, {3, 1, -4, 0}, {1, 3, -4, 0}, {3, -1, -2, 0},
            {-1, 2, -2, 10}, {0, 3, -2, 10}},
        {{-1, 2, -1, 0}, {-3, 1, 2, 0}, {-2, 3, -1, 0}, {-4, 2, 2, 0}, {-3, 4, -1, 0},
            {-4, 1, 3, 0}, {-1, 4, -3, 0}},
    };

    private final String name;
    private final Dice dice;
    private final int[] signs;
    private final FourierMotzkin tested = new FourierMotzkin();
    private final Reference reference = new Reference();

    private CrowdedTest(int run) {
        name = "run " + run + ": ";
        dice = new Dice(2000000 + run);
        signs = signs(run % 8);
    }

    public static void main(String[] args) {
        for (int corner = 0; corner < 8; corner++) {
            Checks.sentence("THE BODY is the set of all points (a corner, crossed by seven planes)");
            oneCorner(signs(corner));
            Checks.sentence("THE BODY is the set of all points (the cube, touched by seven planes)");
            wholeCube(signs(corner));
        }
        Checks.sentence("THE BODY is the set of all points (seven planes through a corner)");
        for (int run = 0; run < RUNS; run++) {
            new CrowdedTest(run).throughTheCorner();
        }
        Checks.sentence("THE BODY is the set of all points (seven planes at a diagonal)");
        for (int run = 0; run < 8 * AT_A_DIAGONAL.length; run++) {
            new CrowdedTest(run).atTheDiagonal(AT_A_DIAGONAL[run / 8]);
        }
        Checks.finish();
    }

    /** On which side of each axis a corner of the cube lies. */
    private static int[] signs(int corner) {
        return new int[] {corner % 2 == 0 ? 1 : -1, corner / 2 % 2 == 0 ? 1 : -1, corner < 4 ? 1 : -1};
    }

    /** The slope of a plane that is told for the corner 10, 10, 10, at the corner with these signs. */
    private static int mirrored(int[] plane, int[] signs) {
        return Bodies.slope(plane[0] * signs[0], plane[1] * signs[1], plane[2] * signs[2]);
    }

    private static FourierMotzkin throughCorner(int[][] planes, int[] signs) {
        FourierMotzkin body = new FourierMotzkin();
        for (int[] plane : planes) {
            body.add(mirrored(plane, signs), 10 * (plane[0] + plane[1] + plane[2]));
        }
        return body;
    }

    private static void oneCorner(int[] signs) {
        FourierMotzkin body = throughCorner(AROUND_A_CORNER, signs);
        due("bounds", body.bounds(), 7);
        due("empty", body.empty(), 0);
        due("single", body.single(), 1);
        for (int axis = 0; axis < 3; axis++) {
            due("most", body.mostTop(axis), 10 * signs[axis]);
            due("its denominator", body.mostBottom(axis), 1);
            due("least", body.leastTop(axis), 10 * signs[axis]);
            due("its denominator", body.leastBottom(axis), 1);
            due("grid", body.shadowGrid(axis), 1);
        }
        int inward = Bodies.slope(-4 * signs[0], -4 * signs[1], -4 * signs[2]);
        due("support", body.support(inward), -120);
        due("follows", body.follows(inward, -120), 1);
        due("a tighter one doesn't follow", body.follows(inward, -121), 0);
        due("the corner", body.has(10 * signs[0], 10 * signs[1], 10 * signs[2], 1), 1);
        for (int bound = 1; bound < 7; bound++) {
            due("without bound " + bound + " the first leaves one point too", body.redundant(bound), 1);
        }
        due("beyond the corner", body.move(0, -31), -30);
        due("empty then", body.empty(), 1);
        due("not single then", body.single(), 0);
    }

    private static void wholeCube(int[] signs) {
        FourierMotzkin body = throughCorner(OUTSIDE_A_CORNER, signs);
        due("bounds", body.bounds(), 7);
        due("empty", body.empty(), 0);
        due("single", body.single(), 0);
        for (int axis = 0; axis < 3; axis++) {
            due("most", body.mostTop(axis), 10);
            due("least", body.leastTop(axis), -10);
            due("grid", body.shadowGrid(axis), 441);
        }
        for (int corner = 0; corner < 8; corner++) {
            int[] other = signs(corner);
            int outward = Bodies.slope(4 * other[0], 4 * other[1], 4 * other[2]);
            due("support", body.support(outward), 120);
            due("follows", body.follows(outward, 120), 1);
            due("a tighter one doesn't follow", body.follows(outward, 119), 0);
        }
        for (int bound = 0; bound < 7; bound++) {
            due("redundant(" + bound + ")", body.redundant(bound), 1);
        }
    }

    private void atTheDiagonal(int[][] planes) {
        for (int[] plane : planes) {
            add(mirrored(plane, signs), plane[3]);
        }
        askAll();
        for (int slope = 0; slope <= 728; slope += 4) {
            due(name + "support(" + slope + ")", tested.support(slope), reference.support(slope));
        }
    }

    private void throughTheCorner() {
        for (int bound = 0; bound < 7; bound++) {
            int slope = dice.slope();
            add(slope, Math.max(-40, Math.min(40, atTheCorner(slope))));
        }
        askAll();
        int bound = dice.between(0, 6);
        int d = dice.between(-40, 40);
        due(name + "move(" + bound + ", " + d + ")", tested.move(bound, d), reference.move(bound, d));
        askAll();
    }

    private void add(int slope, int d) {
        due(name + "add(" + slope + ", " + d + ")", tested.add(slope, d), reference.add(slope, d));
    }

    private int atTheCorner(int slope) {
        return 10 * ((slope / 81 - 4) * signs[0] + (slope / 9 % 9 - 4) * signs[1]
                + (slope % 9 - 4) * signs[2]);
    }

    private void askAll() {
        due(name + "empty()", tested.empty(), reference.empty());
        due(name + "single()", tested.single(), reference.single());
        for (int axis = 0; axis < 3; axis++) {
            long[] most = reference.reach(axis, 1);
            long[] least = reference.reach(axis, -1);
            due(name + "mostTop(" + axis + ")", tested.mostTop(axis), most[0]);
            due(name + "mostBottom(" + axis + ")", tested.mostBottom(axis), most[1]);
            due(name + "leastTop(" + axis + ")", tested.leastTop(axis), least[0]);
            due(name + "leastBottom(" + axis + ")", tested.leastBottom(axis), least[1]);
            due(name + "shadowGrid(" + axis + ")", tested.shadowGrid(axis), reference.shadowGrid(axis));
        }
        for (int bound = 0; bound < 7; bound++) {
            due(name + "redundant(" + bound + ")", tested.redundant(bound), reference.redundant(bound));
        }
        for (int question = 0; question < 5; question++) {
            int slope = dice.slope();
            due(name + "support(" + slope + ")", tested.support(slope), reference.support(slope));
        }
    }

    private static void due(String call, long got, long want) {
        Checks.due(call, got, want);
    }
}
