/**
 * "An object is used for at most 512 calls": all 512 are answered as due, whatever came before. Two
 * objects live at a time, so that nothing of the one gets into the other; each answer is compared
 * with that of the Reference, and every method is the 512th call of some object.
 */
final class WholeLifeTest {
    private static final int CALLS = 512;
    private static final int METHODS = 16;
    private static final int LIVES = 6 * METHODS;

    private final String name;
    private final Dice dice;
    private final FourierMotzkin tested = new FourierMotzkin();
    private final Reference reference = new Reference();

    private WholeLifeTest(int life) {
        name = "life " + life;
        dice = new Dice(1000000 + life);
    }

    public static void main(String[] args) {
        Checks.sentence("An object is used for at most 512 calls after it has been made");
        for (int life = 0; life < LIVES; life += 2) {
            WholeLifeTest one = new WholeLifeTest(life);
            WholeLifeTest other = new WholeLifeTest(life + 1);
            for (int call = 1; call < CALLS; call++) {
                one.call(call, one.anyMethod());
                other.call(call, other.anyMethod());
            }
            one.call(CALLS, life % METHODS);
            other.call(CALLS, (life + 1) % METHODS);
        }
        Checks.finish();
    }

    /** One call of four changes the list, or an object would mostly be asked the same. */
    private int anyMethod() {
        return dice.between(0, 3) == 0 ? dice.between(0, 2) : dice.between(3, METHODS - 1);
    }

    private void call(int number, int method) {
        String where = name + ", call " + number + ": ";
        if (method < 4) {
            callOnTheList(where, method);
        } else if (method < 9) {
            callOnTheReach(where, method);
        } else if (method < 13) {
            callOnBounds(where, method);
        } else {
            callOnPoints(where, method);
        }
    }

    private void callOnTheList(String where, int method) {
        int bound = dice.strange(dice.between(-1, 7));
        int slope = dice.strange(dice.slope());
        int near = dice.strange(dice.near(slope));
        int loose = dice.strange(dice.between(-12, 41));
        switch (method) {
            case 0:
                due(where + "add(" + slope + ", " + near + ")",
                        tested.add(slope, near), reference.add(slope, near));
                break;
            case 1:
                due(where + "remove(" + bound + ")", tested.remove(bound), reference.remove(bound));
                break;
            case 2:
                due(where + "move(" + bound + ", " + loose + ")",
                        tested.move(bound, loose), reference.move(bound, loose));
                break;
            default:
                due(where + "bounds()", tested.bounds(), reference.bounds());
        }
    }

    private void callOnTheReach(String where, int method) {
        int axis = dice.strange(dice.between(0, 2));
        long[] most = reference.reach(axis, 1);
        long[] least = reference.reach(axis, -1);
        switch (method) {
            case 4:
                due(where + "empty()", tested.empty(), reference.empty());
                break;
            case 5:
                due(where + "mostTop(" + axis + ")", tested.mostTop(axis), most[0]);
                break;
            case 6:
                due(where + "mostBottom(" + axis + ")", tested.mostBottom(axis), most[1]);
                break;
            case 7:
                due(where + "leastTop(" + axis + ")", tested.leastTop(axis), least[0]);
                break;
            default:
                due(where + "leastBottom(" + axis + ")", tested.leastBottom(axis), least[1]);
        }
    }

    private void callOnBounds(String where, int method) {
        int bound = dice.strange(dice.between(-1, 7));
        int slope = dice.strange(dice.slope());
        int least = Math.max(reference.support(slope), -999);
        int d = dice.strange(least - dice.between(0, 1));
        switch (method) {
            case 9:
                due(where + "follows(" + slope + ", " + d + ")",
                        tested.follows(slope, d), reference.follows(slope, d));
                break;
            case 10:
                due(where + "support(" + slope + ")", tested.support(slope), reference.support(slope));
                break;
            case 11:
                due(where + "redundant(" + bound + ")",
                        tested.redundant(bound), reference.redundant(bound));
                break;
            default:
                due(where + "single()", tested.single(), reference.single());
        }
    }

    private void callOnPoints(String where, int method) {
        int scale = dice.between(1, 20);
        int x = dice.strange(dice.coordinate(0, scale));
        int y = dice.strange(dice.coordinate(1, scale));
        int z = dice.strange(dice.coordinate(2, scale));
        int k = dice.strange(scale);
        int axis = dice.strange(dice.between(0, 2));
        int p = axis == 0 ? y : x;
        int q = axis == 2 ? y : z;
        switch (method) {
            case 13:
                due(where + "has(" + x + ", " + y + ", " + z + ", " + k + ")",
                        tested.has(x, y, z, k), reference.has(x, y, z, k));
                break;
            case 14:
                due(where + "shadow(" + axis + ", " + p + ", " + q + ", " + k + ")",
                        tested.shadow(axis, p, q, k), reference.shadow(axis, p, q, k));
                break;
            default:
                due(where + "shadowGrid(" + axis + ")",
                        tested.shadowGrid(axis), reference.shadowGrid(axis));
        }
    }

    private static void due(String call, long got, long want) {
        Checks.due(call, got, want);
    }
}
