/**
 * "In every method the tests are made in the order named": every method that makes more than one
 * test is asked with all mixtures of right and wrong arguments, on bodies with and without points.
 */
final class OrderOfTestsTest {
    private static final int[] SLOPES = {0, 364, 728, -1, 729, Integer.MIN_VALUE, Integer.MAX_VALUE};
    private static final int[] DS = {-40, 0, 40, -41, 41, Integer.MIN_VALUE, Integer.MAX_VALUE};
    private static final int[] ASKED_DS = {
        -1000, 0, 1000, -1001, 1001, Integer.MIN_VALUE, Integer.MAX_VALUE,
    };
    private static final int[] AXES = {0, 1, 2, -1, 3, Integer.MIN_VALUE, Integer.MAX_VALUE};
    private static final int[] KS = {1, 20, 0, 21, Integer.MIN_VALUE, Integer.MAX_VALUE};
    private static final int[] COORDINATES = {
        -400, 0, 400, -401, 401, Integer.MIN_VALUE, Integer.MAX_VALUE,
    };

    /** Stands for an answer that is no refusal, whatever it is. */
    private static final long NOT_REFUSED = 0;

    public static void main(String[] args) {
        add();
        move();
        mostAndLeast();
        follows();
        support();
        has();
        shadow();
        Checks.finish();
    }

    private static boolean isOut(int value, int least, int most) {
        return value < least || value > most;
    }

    private static FourierMotzkin some(boolean empty) {
        return empty ? Bodies.nothing() : Bodies.cube();
    }

    /** Answers that aren't refusals are never below nought here, so they can be told apart. */
    private static void dueRefusal(String call, long got, long want) {
        Checks.due(call, got < 0 ? got : NOT_REFUSED, want);
    }

    private static void add() {
        Checks.sentence("add: -1 if slope ..; -2 if d ..; -3 if there are 7 bounds");
        for (int count = 0; count <= 7; count++) {
            for (int slope : SLOPES) {
                for (int d : DS) {
                    FourierMotzkin body = new FourierMotzkin();
                    for (int number = 0; number < count; number++) {
                        body.add(364, 0);
                    }
                    int want = isOut(slope, 0, 728) ? -1 : isOut(d, -40, 40) ? -2
                            : count == 7 ? -3 : count;
                    Checks.due("add(" + slope + ", " + d + ") to " + count, body.add(slope, d), want);
                }
            }
        }
    }

    private static void move() {
        Checks.sentence("move: -1 if bound is not good; -2 if d ..");
        int[] bounds = {0, 1, -1, 2, 7, Integer.MIN_VALUE, Integer.MAX_VALUE};
        for (int count = 0; count <= 2; count++) {
            for (int bound : bounds) {
                for (int d : DS) {
                    FourierMotzkin body = new FourierMotzkin();
                    for (int number = 0; number < count; number++) {
                        body.add(364, 30 + number);
                    }
                    int want = isOut(bound, 0, count - 1) ? -1 : isOut(d, -40, 40) ? -2 : 30 + bound;
                    Checks.due("move(" + bound + ", " + d + ") of " + count, body.move(bound, d), want);
                }
            }
        }
    }

    private static void mostAndLeast() {
        Checks.sentence("most and least: -1000000 if axis ..; -2000000 if the body is empty");
        for (int axis : AXES) {
            long wrong = isOut(axis, 0, 2) ? -1000000 : -2000000;
            Checks.due("mostTop(" + axis + ") of none", Bodies.nothing().mostTop(axis), wrong);
            Checks.due("leastTop(" + axis + ") of none", Bodies.nothing().leastTop(axis), wrong);
            Checks.due("mostTop(" + axis + ") of no whole point",
                    Bodies.emptyByAHair().mostTop(axis), wrong);
            Checks.due("leastTop(" + axis + ") of no whole point",
                    Bodies.emptyByAHair().leastTop(axis), wrong);
        }
    }

    private static void follows() {
        Checks.sentence("follows: -1 if slope ..; -2 if d ..");
        for (int turn = 0; turn < 2; turn++) {
            boolean empty = turn == 1;
            for (int slope : SLOPES) {
                for (int d : ASKED_DS) {
                    long want = isOut(slope, 0, 728) ? -1 : isOut(d, -1000, 1000) ? -2 : NOT_REFUSED;
                    dueRefusal("follows(" + slope + ", " + d + ")", some(empty).follows(slope, d), want);
                }
            }
        }
    }

    private static void support() {
        Checks.sentence("support: -1000 if slope ..; -2000 if the body is empty");
        for (int slope : SLOPES) {
            long wrong = isOut(slope, 0, 728) ? -1000 : -2000;
            Checks.due("support(" + slope + ") of none", Bodies.nothing().support(slope), wrong);
            dueRefusal("support(" + slope + ")", Bodies.cube().support(slope),
                    wrong == -1000 ? -1000 : NOT_REFUSED);
        }
    }

    private static void has() {
        Checks.sentence("has: -1 if k ..; -2 if x, y or z ..");
        for (int turn = 0; turn < 2; turn++) {
            boolean empty = turn == 1;
            for (int k : KS) {
                for (int x : COORDINATES) {
                    for (int y : COORDINATES) {
                        for (int z : COORDINATES) {
                            boolean far = isOut(x, -400, 400) || isOut(y, -400, 400)
                                    || isOut(z, -400, 400);
                            long want = isOut(k, 1, 20) ? -1 : far ? -2 : NOT_REFUSED;
                            dueRefusal("has(" + x + ", " + y + ", " + z + ", " + k + ")",
                                    some(empty).has(x, y, z, k), want);
                        }
                    }
                }
            }
        }
    }

    private static void shadow() {
        Checks.sentence("shadow: -1 if axis ..; -2 if k ..; -3 if p or q ..");
        for (int turn = 0; turn < 2; turn++) {
            boolean empty = turn == 1;
            for (int axis : AXES) {
                for (int k : KS) {
                    for (int p : COORDINATES) {
                        for (int q : COORDINATES) {
                            boolean far = isOut(p, -400, 400) || isOut(q, -400, 400);
                            long want = isOut(axis, 0, 2) ? -1 : isOut(k, 1, 20) ? -2
                                    : far ? -3 : NOT_REFUSED;
                            dueRefusal("shadow(" + axis + ", " + p + ", " + q + ", " + k + ")",
                                    some(empty).shadow(axis, p, q, k), want);
                        }
                    }
                }
            }
        }
    }
}
