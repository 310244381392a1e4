import java.util.Random;

/** Runs of calls, good and wrong ones, each answer compared with that of the Reference. */
final class ReferenceTest {
    private static final int RUNS = 1500;
    private static final int CALLS = 60;
    private static final int[] ODD = {
        Integer.MIN_VALUE, Integer.MAX_VALUE, -1001, -401, -41, -1, 21, 41, 401, 729, 1001,
    };

    private final Random random;
    private final int run;
    private final int[] anchor = new int[3];
    private final FourierMotzkin tested = new FourierMotzkin();
    private final Reference reference = new Reference();

    private ReferenceTest(int run) {
        this.run = run;
        random = new Random(run);
        for (int axis = 0; axis < 3; axis++) {
            anchor[axis] = random.nextInt(3) == 0 ? (random.nextBoolean() ? 10 : -10) : between(-5, 5);
        }
    }

    public static void main(String[] args) {
        for (int run = 0; run < RUNS; run++) {
            new ReferenceTest(run).play();
        }
        Checks.finish();
    }

    private void play() {
        for (int i = 0; i < CALLS; i++) {
            int kind = random.nextInt(10);
            if (kind < 2 || i < 4) {
                change();
            } else {
                ask();
            }
        }
    }

    private void change() {
        switch (random.nextInt(10)) {
            case 0: {
                int bound = strange(between(-1, 7));
                due("remove(" + bound + ")", tested.remove(bound), reference.remove(bound));
                break;
            }
            case 1:
            case 2: {
                int bound = strange(between(-1, 7));
                int d = strange(between(-42, 42));
                due("move(" + bound + ", " + d + ")", tested.move(bound, d), reference.move(bound, d));
                break;
            }
            default: {
                int slope = strange(slope());
                int d = strange(near(slope));
                due("add(" + slope + ", " + d + ")", tested.add(slope, d), reference.add(slope, d));
            }
        }
        due("bounds()", tested.bounds(), reference.bounds());
    }

    private void ask() {
        switch (random.nextInt(8)) {
            case 0:
                due("empty()", tested.empty(), reference.empty());
                due("single()", tested.single(), reference.single());
                break;
            case 1:
            case 2:
                askReach(strange(between(-1, 3)));
                break;
            case 3: {
                int slope = strange(slope());
                int d = strange(between(-45, 45));
                due("follows(" + slope + ", " + d + ")",
                        tested.follows(slope, d), reference.follows(slope, d));
                break;
            }
            case 4: {
                int slope = strange(slope());
                int most = reference.support(slope);
                due("support(" + slope + ")", tested.support(slope), most);
                due("follows(" + slope + ", " + most + ")",
                        tested.follows(slope, most), reference.follows(slope, most));
                break;
            }
            case 5: {
                int bound = strange(between(-1, 7));
                due("redundant(" + bound + ")", tested.redundant(bound), reference.redundant(bound));
                break;
            }
            case 6:
                askPoint();
                break;
            default: {
                int axis = strange(between(-1, 3));
                due("shadowGrid(" + axis + ")", tested.shadowGrid(axis), reference.shadowGrid(axis));
            }
        }
    }

    private void askReach(int axis) {
        long[] most = reference.reach(axis, 1);
        long[] least = reference.reach(axis, -1);
        due("mostTop(" + axis + ")", tested.mostTop(axis), most[0]);
        due("mostBottom(" + axis + ")", tested.mostBottom(axis), most[1]);
        due("leastTop(" + axis + ")", tested.leastTop(axis), least[0]);
        due("leastBottom(" + axis + ")", tested.leastBottom(axis), least[1]);
    }

    private void askPoint() {
        int k = between(0, 21);
        int x = strange(anchor[0] * k + between(-k, k));
        int y = strange(anchor[1] * k + between(-k, k));
        int z = strange(anchor[2] * k + between(-k, k));
        int axis = strange(between(0, 2));
        int p = axis == 0 ? y : x;
        int q = axis == 2 ? y : z;
        due("has(" + x + ", " + y + ", " + z + ", " + k + ")",
                tested.has(x, y, z, k), reference.has(x, y, z, k));
        due("shadow(" + axis + ", " + p + ", " + q + ", " + k + ")",
                tested.shadow(axis, p, q, k), reference.shadow(axis, p, q, k));
    }

    /** Small factors half of the time, so that planes are often parallel or meet in one line. */
    private int slope() {
        int most = random.nextBoolean() ? 1 : 4;
        int a = between(-most, most);
        int b = between(-most, most);
        int c = between(-most, most);
        return 81 * (a + 4) + 9 * (b + 4) + c + 4;
    }

    /** Mostly a plane through or close to the anchor, so that thin bodies and single points come up. */
    private int near(int slope) {
        if (random.nextInt(4) == 0) {
            return between(-41, 41);
        }
        int a = slope / 81 - 4;
        int b = slope / 9 % 9 - 4;
        int c = slope % 9 - 4;
        int d = a * anchor[0] + b * anchor[1] + c * anchor[2];
        int more = random.nextInt(12);
        return d + (more == 0 ? -1 : more < 4 ? more : 0);
    }

    private int strange(int value) {
        return random.nextInt(60) == 0 ? ODD[random.nextInt(ODD.length)] : value;
    }

    private int between(int least, int most) {
        return least + random.nextInt(most - least + 1);
    }

    private void due(String call, long got, long want) {
        Checks.due("run " + run + ": " + call, got, want);
    }
}
