import java.util.Random;

/** The arguments of runs of calls. The same seed always throws the same ones. */
final class Dice {
    private static final int[] ODD = {
        Integer.MIN_VALUE, Integer.MAX_VALUE, -1001, -401, -41, -1, 21, 41, 401, 729, 1001,
    };

    private final Random random;

    /** A point that most bounds of a run are close to. */
    private final int[] anchor = new int[3];

    Dice(int seed) {
        random = new Random(seed);
        for (int axis = 0; axis < 3; axis++) {
            anchor[axis] = random.nextInt(3) == 0 ? (random.nextBoolean() ? 10 : -10) : between(-5, 5);
        }
    }

    int between(int least, int most) {
        return least + random.nextInt(most - least + 1);
    }

    /** Mostly the value itself, now and then one that is wrong almost everywhere. */
    int strange(int value) {
        return random.nextInt(60) == 0 ? ODD[random.nextInt(ODD.length)] : value;
    }

    /** Small factors half of the time, so that planes are often parallel or meet in one line. */
    int slope() {
        int most = random.nextBoolean() ? 1 : 4;
        int a = between(-most, most);
        int b = between(-most, most);
        int c = between(-most, most);
        return Bodies.slope(a, b, c);
    }

    /** Mostly a plane through or close to the anchor, so that thin bodies and single points come up. */
    int near(int slope) {
        if (random.nextInt(4) == 0) {
            return between(-41, 41);
        }
        int a = slope / 81 - 4;
        int b = slope / 9 % 9 - 4;
        int c = slope % 9 - 4;
        int d = a * anchor[0] + b * anchor[1] + c * anchor[2];
        int more = random.nextInt(12);
        return d + (more == 0 ? -1 : more < 4 ? more : 0);
    }

    /** A coordinate near the anchor's, times k. */
    int coordinate(int axis, int k) {
        return anchor[axis] * k + between(-k, k);
    }
}
