import java.util.function.Supplier;

/** The boundary cases of promises 1 to 5, each sentence in a method of its own. */
final class ListEdgeTest {
    private static final int[] WRONG_SLOPES = {Integer.MIN_VALUE, -729, -1, 729, 730, Integer.MAX_VALUE};
    private static final int[] WRONG_DS = {Integer.MIN_VALUE, -1000, -41, 41, 1000, Integer.MAX_VALUE};

    /** The bounds that the lists of these tests are made of: no two slopes or limits are alike. */
    private static final int[] SLOPES = {
        Bodies.slope(3, 2, -1), Bodies.slope(-1, 2, 2), Bodies.slope(0, -3, 1),
        Bodies.slope(4, -4, 1), Bodies.slope(-4, 0, 3), Bodies.slope(1, 1, 1),
        Bodies.slope(0, 0, -2),
    };
    private static final int[] DS = {4, 7, -2, 30, 40, 9, 11};

    public static void main(String[] args) {
        newObjectHasNoBounds();
        addPutsAtTheEnd();
        addSlope();
        addLimit();
        addToAFullList();
        addAfterFull();
        addAnswersItsNumber();
        removeTakesOut();
        removeAnswersHowManyAreLeft();
        removeOfNoBound();
        moveChangesTheLimit();
        moveLimit();
        moveOfNoBound();
        moveAnswersTheOneBefore();
        boundsCount();
        goodNumbers();
        Checks.finish();
    }

    private static void due(String what, long got, long want) {
        Checks.due(what, got, want);
    }

    private static FourierMotzkin listOf(int count) {
        FourierMotzkin body = new FourierMotzkin();
        for (int number = 0; number < count; number++) {
            body.add(SLOPES[number], DS[number]);
        }
        return body;
    }

    /** The list of so many bounds as it is due, with one left out, or none if without is -1. */
    private static String dueList(int count, int without) {
        int[] pairs = new int[2 * (without < 0 ? count : count - 1)];
        int filled = 0;
        for (int number = 0; number < count; number++) {
            if (number != without) {
                pairs[filled++] = SLOPES[number];
                pairs[filled++] = DS[number];
            }
        }
        return Listing.due(pairs);
    }

    private static void newObjectHasNoBounds() {
        Checks.sentence("FourierMotzkin(): No bounds.");
        due("bounds", new FourierMotzkin().bounds(), 0);
        due("remove(0)", new FourierMotzkin().remove(0), -1);
        due("move(0, 0)", new FourierMotzkin().move(0, 0), -1);
        due("redundant(0)", new FourierMotzkin().redundant(0), -1);
        due("the first number", new FourierMotzkin().add(364, 0), 0);
        for (int axis = 0; axis < 3; axis++) {
            due("the whole cube", new FourierMotzkin().shadowGrid(axis), 441);
        }
        FourierMotzkin full = listOf(7);
        due("a new object beside a full one", new FourierMotzkin().bounds(), 0);
        due("the full one", full.bounds(), 7);
    }

    private static void addPutsAtTheEnd() {
        Checks.sentence("Puts a bound at the end of the list");
        for (int count = 0; count <= 7; count++) {
            int made = count;
            Checks.due(count + " bounds", Listing.of(() -> listOf(made)), dueList(count, -1));
        }
        Supplier<FourierMotzkin> twice = () -> Bodies.of(364, 5, 364, 5);
        Checks.due("the same bound twice", Listing.of(twice), Listing.due(364, 5, 364, 5));
    }

    private static void addSlope() {
        Checks.sentence("add: -1 if slope is not in 0 .. 728");
        for (int slope : WRONG_SLOPES) {
            due("slope " + slope, new FourierMotzkin().add(slope, 0), -1);
            due("slope " + slope + ", full", listOf(7).add(slope, 0), -1);
        }
        due("slope 0", new FourierMotzkin().add(0, 0), 0);
        due("slope 728", new FourierMotzkin().add(728, 0), 0);
    }

    private static void addLimit() {
        Checks.sentence("add: -2 if d is not in -40 .. 40");
        for (int d : WRONG_DS) {
            due("d " + d, new FourierMotzkin().add(0, d), -2);
            due("d " + d + " with the last slope", new FourierMotzkin().add(728, d), -2);
            due("d " + d + ", full", listOf(7).add(0, d), -2);
        }
        due("d -40", new FourierMotzkin().add(0, -40), 0);
        due("d 40", new FourierMotzkin().add(0, 40), 0);
    }

    private static void addToAFullList() {
        Checks.sentence("-3 if there are 7 bounds");
        FourierMotzkin body = listOf(6);
        due("the seventh", body.add(SLOPES[6], DS[6]), 6);
        due("the eighth", body.add(0, 0), -3);
        due("the eighth again", body.add(364, 40), -3);
        due("still seven", body.bounds(), 7);
        due("full of bounds kept by none", Bodies.fullAndEmpty().add(0, 0), -3);
    }

    private static void addAfterFull() {
        Checks.sentence("-3 if there are 7 bounds; otherwise answers its number");
        for (int taken = 0; taken < 7; taken++) {
            FourierMotzkin body = listOf(7);
            body.remove(taken);
            due("room after remove(" + taken + ")", body.add(364, 3), 6);
            due("it is the last", body.move(6, 4), 3);
            due("full again", body.add(364, 0), -3);
        }
        FourierMotzkin moved = listOf(7);
        moved.move(6, 0);
        due("move makes no room", moved.add(364, 0), -3);
    }

    private static void addAnswersItsNumber() {
        Checks.sentence("add: otherwise answers its number");
        FourierMotzkin body = new FourierMotzkin();
        for (int number = 0; number < 7; number++) {
            due("number", body.add(SLOPES[number], DS[number]), number);
        }
        for (int left = 6; left >= 0; left--) {
            body.remove(0);
            due("number after remove", body.add(364, 0), left);
            body.remove(left);
        }
    }

    private static void removeTakesOut() {
        Checks.sentence("Takes a bound out; later ones get numbers less by one");
        for (int count = 1; count <= 7; count++) {
            for (int taken = 0; taken < count; taken++) {
                int made = count;
                int bound = taken;
                Supplier<FourierMotzkin> maker = () -> {
                    FourierMotzkin body = listOf(made);
                    body.remove(bound);
                    return body;
                };
                Checks.due("remove(" + taken + ") of " + count, Listing.of(maker), dueList(count, taken));
            }
        }
    }

    private static void removeAnswersHowManyAreLeft() {
        Checks.sentence("remove: otherwise answers how many are left");
        FourierMotzkin first = listOf(7);
        FourierMotzkin last = listOf(7);
        for (int left = 6; left >= 0; left--) {
            due("the first out", first.remove(0), left);
            due("the last out", last.remove(left), left);
        }
        due("none is left", first.remove(0), -1);
        due("none is left", last.remove(0), -1);
        due("the whole cube", first.follows(Bodies.slope(4, 4, 4), 119), 0);
    }

    private static void removeOfNoBound() {
        Checks.sentence("remove: -1 if bound is not good");
        for (int count = 0; count <= 7; count++) {
            int[] wrong = {Integer.MIN_VALUE, -7, -1, count, count + 1, 728, Integer.MAX_VALUE};
            for (int bound : wrong) {
                due("remove(" + bound + ") of " + count, listOf(count).remove(bound), -1);
            }
        }
    }

    private static void moveChangesTheLimit() {
        Checks.sentence("Changes the number d of a bound");
        for (int moved = 0; moved < 7; moved++) {
            int bound = moved;
            Supplier<FourierMotzkin> maker = () -> {
                FourierMotzkin body = listOf(7);
                body.move(bound, -33);
                return body;
            };
            int[] pairs = new int[14];
            for (int number = 0; number < 7; number++) {
                pairs[2 * number] = SLOPES[number];
                pairs[2 * number + 1] = number == moved ? -33 : DS[number];
            }
            Checks.due("move(" + moved + ", -33)", Listing.of(maker), Listing.due(pairs));
        }
        FourierMotzkin body = Bodies.of(Bodies.slope(4, 0, 0), 0);
        body.move(0, 40);
        due("4x <= 40", body.mostTop(0), 10);
        body.move(0, -40);
        due("4x <= -40", body.mostTop(0), -10);
        due("4x <= -40", body.empty(), 0);
    }

    private static void moveLimit() {
        Checks.sentence("move: -2 if d is not in -40 .. 40");
        for (int d : WRONG_DS) {
            due("move(0, " + d + ")", listOf(1).move(0, d), -2);
            due("move(6, " + d + ")", listOf(7).move(6, d), -2);
        }
        due("move(0, -40)", listOf(1).move(0, -40), 4);
        due("move(0, 40)", listOf(1).move(0, 40), 4);
        due("move(6, -40)", listOf(7).move(6, -40), 11);
        due("move(6, 40)", listOf(7).move(6, 40), 11);
    }

    private static void moveOfNoBound() {
        Checks.sentence("move: -1 if bound is not good");
        for (int count = 0; count <= 7; count++) {
            int[] wrong = {Integer.MIN_VALUE, -7, -1, count, count + 1, 728, Integer.MAX_VALUE};
            for (int bound : wrong) {
                due("move(" + bound + ", 0) of " + count, listOf(count).move(bound, 0), -1);
            }
        }
    }

    private static void moveAnswersTheOneBefore() {
        Checks.sentence("move: otherwise answers the one before");
        FourierMotzkin body = Bodies.of(0, 40);
        int before = 40;
        for (int d = -40; d <= 40; d++) {
            due("move(0, " + d + ")", body.move(0, d), before);
            before = d;
        }
        due("the same d again", body.move(0, 40), 40);
        for (int bound = 0; bound < 7; bound++) {
            due("of bound " + bound, listOf(7).move(bound, 0), DS[bound]);
        }
        FourierMotzkin shifted = listOf(7);
        shifted.remove(0);
        for (int bound = 0; bound < 6; bound++) {
            due("of bound " + bound + " after remove(0)", shifted.move(bound, 0), DS[bound + 1]);
        }
    }

    private static void boundsCount() {
        Checks.sentence("How many bounds there are");
        FourierMotzkin body = new FourierMotzkin();
        for (int count = 0; count < 7; count++) {
            due("before add", body.bounds(), count);
            body.add(-1, 0);
            due("after a refused add", body.bounds(), count);
            body.add(0, -40);
            due("after add", body.bounds(), count + 1);
        }
        body.add(0, 0);
        due("after an add to a full list", body.bounds(), 7);
        body.move(0, 0);
        due("after move", body.bounds(), 7);
        for (int count = 7; count > 0; count--) {
            body.remove(count);
            due("after a refused remove", body.bounds(), count);
            body.remove(0);
            due("after remove", body.bounds(), count - 1);
        }
        body.remove(0);
        due("after a remove from no list", body.bounds(), 0);
    }

    private static void goodNumbers() {
        Checks.sentence("a bound's number is good if there is such a bound");
        for (int count = 0; count <= 7; count++) {
            for (int bound = -1; bound <= 8; bound++) {
                boolean good = bound >= 0 && bound < count;
                String call = "(" + bound + ") of " + count;
                due("remove" + call, listOf(count).remove(bound), good ? count - 1 : -1);
                due("move" + call, listOf(count).move(bound, 0), good ? DS[bound] : -1);
                due("redundant" + call + " is refused",
                        listOf(count).redundant(bound) == -1 ? 1 : 0, good ? 0 : 1);
            }
        }
        FourierMotzkin body = listOf(7);
        body.remove(2);
        due("move of the number that is gone", body.move(6, 0), -1);
        due("redundant of the number that is gone", body.redundant(6), -1);
        due("remove of the number that is gone", body.remove(6), -1);
        due("the last that is left", body.remove(5), 5);
    }
}
