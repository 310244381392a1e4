/** Runs of calls, good and wrong ones, each answer compared with that of the Reference. */
final class ReferenceTest {
    private static final int RUNS = 1500;
    private static final int CALLS = 60;

    private final int run;
    private final Dice dice;
    private final FourierMotzkin tested = new FourierMotzkin();
    private final Reference reference = new Reference();

    private ReferenceTest(int run) {
        this.run = run;
        dice = new Dice(run);
    }

    public static void main(String[] args) {
        for (int run = 0; run < RUNS; run++) {
            new ReferenceTest(run).play();
        }
        Checks.finish();
    }

    private void play() {
        for (int i = 0; i < CALLS; i++) {
            int kind = dice.between(0, 9);
            if (kind < 2 || i < 4) {
                change();
            } else {
                ask();
            }
        }
    }

    private void change() {
        switch (dice.between(0, 9)) {
            case 0: {
                int bound = dice.strange(dice.between(-1, 7));
                due("remove(" + bound + ")", tested.remove(bound), reference.remove(bound));
                break;
            }
            case 1:
            case 2: {
                int bound = dice.strange(dice.between(-1, 7));
                int d = dice.strange(dice.between(-42, 42));
                due("move(" + bound + ", " + d + ")", tested.move(bound, d), reference.move(bound, d));
                break;
            }
            default: {
                int slope = dice.strange(dice.slope());
                int d = dice.strange(dice.near(slope));
                due("add(" + slope + ", " + d + ")", tested.add(slope, d), reference.add(slope, d));
            }
        }
        due("bounds()", tested.bounds(), reference.bounds());
    }

    private void ask() {
        switch (dice.between(0, 7)) {
            case 0:
                due("empty()", tested.empty(), reference.empty());
                due("single()", tested.single(), reference.single());
                break;
            case 1:
            case 2:
                askReach(dice.strange(dice.between(-1, 3)));
                break;
            case 3: {
                int slope = dice.strange(dice.slope());
                int d = dice.strange(dice.between(-45, 45));
                due("follows(" + slope + ", " + d + ")",
                        tested.follows(slope, d), reference.follows(slope, d));
                break;
            }
            case 4: {
                int slope = dice.strange(dice.slope());
                int most = reference.support(slope);
                due("support(" + slope + ")", tested.support(slope), most);
                due("follows(" + slope + ", " + most + ")",
                        tested.follows(slope, most), reference.follows(slope, most));
                break;
            }
            case 5: {
                int bound = dice.strange(dice.between(-1, 7));
                due("redundant(" + bound + ")", tested.redundant(bound), reference.redundant(bound));
                break;
            }
            case 6:
                askPoint();
                break;
            default: {
                int axis = dice.strange(dice.between(-1, 3));
                due("shadowGrid(" + axis + ")", tested.shadowGrid(axis), reference.shadowGrid(axis));
            }
        }
    }

    private void askReach(int axis) {
        long[] most = reference.reach(axis, 1);
        long[] least = reference.reach(axis, -1);
        due("mostTop(" + axis + ")", tested.mostTop(axis), most[0]);
        due("mostBottom(" + axis + ")", tested.mostBottom(axis), most[1]);
        due("leastTop(" + axis + ")", tested.leastTop(axis), least[0]);
        due("leastBottom(" + axis + ")", tested.leastBottom(axis), least[1]);
    }

    private void askPoint() {
        int k = dice.between(0, 21);
        int x = dice.strange(dice.coordinate(0, k));
        int y = dice.strange(dice.coordinate(1, k));
        int z = dice.strange(dice.coordinate(2, k));
        int axis = dice.strange(dice.between(0, 2));
        int p = axis == 0 ? y : x;
        int q = axis == 2 ? y : z;
        due("has(" + x + ", " + y + ", " + z + ", " + k + ")",
                tested.has(x, y, z, k), reference.has(x, y, z, k));
        due("shadow(" + axis + ", " + p + ", " + q + ", " + k + ")",
                tested.shadow(axis, p, q, k), reference.shadow(axis, p, q, k));
    }

    private void due(String call, long got, long want) {
        Checks.due("run " + run + ": " + call, got, want);
    }
}
