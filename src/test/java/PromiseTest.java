/** Each promise of the document by hand: ordinary inputs, edges and wrong inputs. */
final class PromiseTest {
    private static final int[] FAR = {Integer.MIN_VALUE, -1000000, 1000000, Integer.MAX_VALUE};

    public static void main(String[] args) {
        newObject();
        add();
        remove();
        removeShiftsTheRest();
        move();
        bounds();
        empty();
        mostAndLeast();
        reachOfNothing();
        follows();
        support();
        redundant();
        has();
        shadow();
        shadowGrid();
        single();
        objectsAreApart();
        refusedCallsChangeNothing();
        questionsChangeNothing();
        Checks.finish();
    }

    private static int slope(int a, int b, int c) {
        return Bodies.slope(a, b, c);
    }

    private static void due(String what, long got, long want) {
        Checks.due(what, got, want);
    }

    private static void dueMost(String what, FourierMotzkin body, int axis, long top, long bottom) {
        due(what + " mostTop(" + axis + ")", body.mostTop(axis), top);
        due(what + " mostBottom(" + axis + ")", body.mostBottom(axis), bottom);
    }

    private static void dueLeast(String what, FourierMotzkin body, int axis, long top, long bottom) {
        due(what + " leastTop(" + axis + ")", body.leastTop(axis), top);
        due(what + " leastBottom(" + axis + ")", body.leastBottom(axis), bottom);
    }

    private static void newObject() {
        FourierMotzkin body = new FourierMotzkin();
        due("1: bounds", body.bounds(), 0);
        due("1: empty", body.empty(), 0);
        due("1: single", body.single(), 0);
        for (int axis = 0; axis < 3; axis++) {
            dueMost("1:", body, axis, 10, 1);
            dueLeast("1:", body, axis, -10, 1);
            due("1: shadowGrid", body.shadowGrid(axis), 441);
        }
        due("1: a far corner", body.has(10, -10, 10, 1), 1);
    }

    private static void add() {
        FourierMotzkin body = new FourierMotzkin();
        due("2: slope -1", body.add(-1, 0), -1);
        due("2: slope 729", body.add(729, 0), -1);
        due("2: slope before d", body.add(729, 41), -1);
        due("2: d 41", body.add(0, 41), -2);
        due("2: d -41", body.add(728, -41), -2);
        for (int far : FAR) {
            due("2: far slope", body.add(far, 0), -1);
            due("2: far d", body.add(0, far), -2);
        }
        due("2: least slope and most d", body.add(0, 40), 0);
        due("2: most slope and least d", body.add(728, -40), 1);
        for (int number = 2; number < 7; number++) {
            due("2: number", body.add(slope(1, 0, 0), number), number);
        }
        due("2: full", body.add(0, 0), -3);
        due("2: slope before full", body.add(-1, 0), -1);
        due("2: d before full", body.add(0, -41), -2);
        due("2: the last is last", body.move(6, 0), 6);
        due("2: still seven", body.bounds(), 7);
        due("2: room again", body.remove(3), 6);
        due("2: at the end again", body.add(slope(0, 1, 0), 9), 6);
    }

    private static void remove() {
        FourierMotzkin body = new FourierMotzkin();
        due("3: none", body.remove(0), -1);
        body.add(slope(1, 0, 0), 3);
        due("3: -1", body.remove(-1), -1);
        due("3: one too many", body.remove(1), -1);
        for (int far : FAR) {
            due("3: far", body.remove(far), -1);
        }
        dueMost("3: kept", body, 0, 3, 1);
        due("3: the only one", body.remove(0), 0);
        dueMost("3: gone", body, 0, 10, 1);
    }

    private static void removeShiftsTheRest() {
        FourierMotzkin body = new FourierMotzkin();
        body.add(slope(1, 0, 0), 1);
        body.add(slope(0, 1, 0), 2);
        body.add(slope(0, 0, 1), 3);
        body.add(slope(-1, 0, 0), 4);
        due("3: the middle", body.remove(1), 3);
        dueMost("3: y is free", body, 1, 10, 1);
        due("3: the first stays", body.move(0, 5), 1);
        due("3: the third is second", body.move(1, 6), 3);
        due("3: the fourth is third", body.move(2, 7), 4);
        due("3: no fourth", body.move(3, 0), -1);
        dueMost("3: the first's slope", body, 0, 5, 1);
        dueMost("3: the second's slope", body, 2, 6, 1);
        dueLeast("3: the third's slope", body, 0, -7, 1);
        due("3: the last", body.remove(2), 2);
        dueLeast("3: x is free below", body, 0, -10, 1);
        due("3: the first", body.remove(0), 1);
        dueMost("3: z is left", body, 2, 6, 1);
        dueMost("3: x is free above", body, 0, 10, 1);
    }

    private static void move() {
        FourierMotzkin body = new FourierMotzkin();
        due("4: none", body.move(0, 0), -1);
        body.add(slope(2, 0, 0), 7);
        body.add(slope(0, 3, 0), 8);
        due("4: bound before d", body.move(2, 41), -1);
        due("4: bound -1", body.move(-1, 0), -1);
        due("4: d 41", body.move(0, 41), -2);
        due("4: d -41", body.move(0, -41), -2);
        for (int far : FAR) {
            due("4: far bound", body.move(far, 0), -1);
            due("4: far d", body.move(1, far), -2);
        }
        due("4: to 40", body.move(0, 40), 7);
        due("4: to -40", body.move(0, -40), 40);
        due("4: empty now", body.empty(), 1);
        due("4: back", body.move(0, 5), -40);
        dueMost("4: moved", body, 0, 5, 2);
        dueMost("4: the other stays", body, 1, 8, 3);
        due("4: still two", body.bounds(), 2);
    }

    private static void bounds() {
        FourierMotzkin body = new FourierMotzkin();
        for (int number = 0; number < 7; number++) {
            due("5: before", body.bounds(), number);
            body.add(364, 0);
        }
        due("5: full", body.bounds(), 7);
        body.add(364, 0);
        due("5: one refused", body.bounds(), 7);
        body.remove(7);
        due("5: nothing taken", body.bounds(), 7);
        body.remove(0);
        due("5: one taken", body.bounds(), 6);
    }

    private static void empty() {
        FourierMotzkin body = new FourierMotzkin();
        body.add(slope(1, 1, 1), -30);
        due("6: one corner is left", body.empty(), 0);
        body.move(0, -31);
        due("6: less than any corner", body.empty(), 1);
        body.move(0, 0);
        body.add(slope(-1, -1, -1), 0);
        due("6: a plane", body.empty(), 0);
        body.move(1, -1);
        due("6: between two planes", body.empty(), 1);
        body.remove(1);
        due("6: one half", body.empty(), 0);
        body.add(slope(0, 0, 0), 0);
        due("6: 0 <= 0", body.empty(), 0);
        body.move(1, -1);
        due("6: 0 <= -1", body.empty(), 1);
        body.move(1, 1);
        due("6: 0 <= 1", body.empty(), 0);
        due("6: no whole points, yet some", Bodies.halfPoint().empty(), 0);
    }

    private static void mostAndLeast() {
        FourierMotzkin body = new FourierMotzkin();
        body.add(slope(4, 0, 0), 6);
        body.add(slope(-3, 0, 0), 5);
        body.add(slope(0, 2, 0), 0);
        body.add(slope(0, -4, 0), 0);
        body.add(slope(-1, 0, 3), 1);
        dueMost("7, 8: 6/4 in lowest terms", body, 0, 3, 2);
        dueLeast("9, 10: below nought", body, 0, -5, 3);
        dueMost("7, 8: nought", body, 1, 0, 1);
        dueLeast("9, 10: nought", body, 1, 0, 1);
        dueMost("7, 8: by way of x", body, 2, 5, 6);
        dueLeast("9, 10: a wall", body, 2, -10, 1);

        FourierMotzkin skew = new FourierMotzkin();
        skew.add(slope(4, 3, -4), 1);
        skew.add(slope(-4, 4, 3), 2);
        skew.add(slope(3, -4, 4), 3);
        skew.add(slope(-1, -1, -1), 0);
        Reference reference = new Reference();
        reference.add(slope(4, 3, -4), 1);
        reference.add(slope(-4, 4, 3), 2);
        reference.add(slope(3, -4, 4), 3);
        reference.add(slope(-1, -1, -1), 0);
        for (int axis = 0; axis < 3; axis++) {
            long[] most = reference.reach(axis, 1);
            long[] least = reference.reach(axis, -1);
            dueMost("7, 8: skew", skew, axis, most[0], most[1]);
            dueLeast("9, 10: skew", skew, axis, least[0], least[1]);
        }
    }

    private static void reachOfNothing() {
        int[] wrong = {-1, 3, FAR[0], FAR[1], FAR[2], FAR[3]};
        FourierMotzkin body = Bodies.nothing();
        for (int axis = 0; axis < 3; axis++) {
            dueMost("7, 8: empty", body, axis, -2000000, 0);
            dueLeast("9, 10: empty", body, axis, -2000000, 0);
        }
        for (int axis : wrong) {
            dueMost("7, 8: axis before empty", body, axis, -1000000, 0);
            dueLeast("9, 10: axis before empty", body, axis, -1000000, 0);
            dueMost("7, 8: axis", new FourierMotzkin(), axis, -1000000, 0);
            dueLeast("9, 10: axis", new FourierMotzkin(), axis, -1000000, 0);
        }
    }

    private static void follows() {
        FourierMotzkin body = new FourierMotzkin();
        due("11: slope -1", body.follows(-1, 0), -1);
        due("11: slope 729", body.follows(729, 0), -1);
        due("11: slope before d", body.follows(729, 1001), -1);
        due("11: d 1001", body.follows(0, 1001), -2);
        due("11: d -1001", body.follows(0, -1001), -2);
        for (int far : FAR) {
            due("11: far slope", body.follows(far, 0), -1);
            due("11: far d", body.follows(0, far), -2);
        }
        due("11: the cube", body.follows(slope(4, 4, 4), 120), 1);
        due("11: in the cube", body.follows(slope(4, 4, 4), 119), 0);
        due("11: d 1000", body.follows(728, 1000), 1);
        due("11: d -1000", body.follows(728, -1000), 0);
        due("11: 0 <= 0", body.follows(364, 0), 1);
        due("11: 0 <= -1", body.follows(364, -1), 0);
        body.add(slope(2, 1, 0), 3);
        body.add(slope(-1, 1, 0), 0);
        due("11: a sum of two", body.follows(slope(1, 2, 0), 3), 1);
        due("11: not so tight", body.follows(slope(1, 2, 0), 2), 0);
        due("11: y <= 1", body.follows(slope(0, 1, 0), 1), 1);
        due("11: not y <= 0", body.follows(slope(0, 1, 0), 0), 0);
        due("11: empty", Bodies.nothing().follows(728, -1000), 1);
        due("11: empty and 0 <= -1", Bodies.nothing().follows(364, -1), 1);
        due("11: empty, wrong slope", Bodies.nothing().follows(729, 0), -1);
        due("11: empty, wrong d", Bodies.nothing().follows(0, 1001), -2);
    }

    private static void support() {
        FourierMotzkin body = new FourierMotzkin();
        due("12: slope -1", body.support(-1), -1000);
        due("12: slope 729", body.support(729), -1000);
        for (int far : FAR) {
            due("12: far slope", body.support(far), -1000);
        }
        due("12: the most", body.support(slope(4, -4, 4)), 120);
        due("12: no slope", body.support(slope(0, 0, 0)), 0);
        body.add(slope(3, 0, 0), 7);
        due("12: up from 7/3", body.support(slope(1, 0, 0)), 3);
        body.move(0, -7);
        due("12: up from -7/3", body.support(slope(1, 0, 0)), -2);
        body.move(0, -6);
        due("12: just -2", body.support(slope(1, 0, 0)), -2);
        body.remove(0);
        body.add(slope(1, 1, 1), -30);
        due("12: the least", body.support(slope(4, 4, 4)), -120);
        due("12: empty", Bodies.nothing().support(0), -2000);
        due("12: empty, no slope", Bodies.nothing().support(364), -2000);
        due("12: slope before empty", Bodies.nothing().support(729), -1000);
    }

    private static void redundant() {
        FourierMotzkin body = new FourierMotzkin();
        due("13: none", body.redundant(0), -1);
        body.add(slope(1, 1, 0), 20);
        due("13: touches the cube", body.redundant(0), 1);
        body.move(0, 19);
        due("13: cuts the cube", body.redundant(0), 0);
        body.add(slope(2, 2, 0), 38);
        due("13: the first twice", body.redundant(0), 1);
        due("13: the second twice", body.redundant(1), 1);
        body.move(1, 37);
        due("13: the weaker", body.redundant(0), 1);
        due("13: the stronger", body.redundant(1), 0);
        due("13: -1", body.redundant(-1), -1);
        due("13: one too many", body.redundant(2), -1);
        for (int far : FAR) {
            due("13: far", body.redundant(far), -1);
        }
        body.add(slope(0, 0, 0), 0);
        due("13: 0 <= 0", body.redundant(2), 1);
        body.move(2, -1);
        due("13: 0 <= -1", body.redundant(2), 0);
        due("13: a cut of what is empty", body.redundant(1), 1);
        body.add(slope(1, 0, 0), -11);
        due("13: 0 <= -1 and empty without", body.redundant(2), 1);
        due("13: empty without", body.redundant(3), 1);
    }

    private static void has() {
        FourierMotzkin body = new FourierMotzkin();
        due("14: k 0", body.has(0, 0, 0, 0), -1);
        due("14: k 21", body.has(0, 0, 0, 21), -1);
        due("14: k before x", body.has(401, 0, 0, 0), -1);
        for (int sign = -1; sign <= 1; sign += 2) {
            due("14: x 401", body.has(sign * 401, 0, 0, 1), -2);
            due("14: y 401", body.has(0, sign * 401, 0, 20), -2);
            due("14: z 401", body.has(0, 0, sign * 401, 20), -2);
            due("14: 400 / 20", body.has(0, 0, sign * 400, 20), 0);
            due("14: x at the wall", body.has(sign * 200, 0, 0, 20), 1);
            due("14: x out", body.has(sign * 201, 0, 0, 20), 0);
            due("14: y at the wall", body.has(0, sign * 30, 0, 3), 1);
            due("14: y out", body.has(0, sign * 31, 0, 3), 0);
            due("14: z at the wall", body.has(0, 0, sign * 10, 1), 1);
            due("14: z out", body.has(0, 0, sign * 11, 1), 0);
        }
        for (int far : FAR) {
            due("14: far k", body.has(0, 0, 0, far), -1);
            due("14: far x", body.has(far, 0, 0, 1), -2);
            due("14: far y", body.has(0, far, 0, 1), -2);
            due("14: far z", body.has(0, 0, far, 1), -2);
        }
        due("14: 400 is good", body.has(400, -400, 400, 1), 0);
        body.add(slope(1, 2, 3), 1);
        due("14: on the bound", body.has(1, 1, 1, 6), 1);
        due("14: beyond it", body.has(1, 1, 1, 5), 0);
        due("14: within it", body.has(1, 1, 1, 7), 1);
        due("14: in none", Bodies.nothing().has(-10, 0, 0, 1), 0);
        due("14: the half point", Bodies.halfPoint().has(5, 5, 5, 10), 1);
        due("14: beside it", Bodies.halfPoint().has(5, 5, 6, 10), 0);
    }

    private static void shadow() {
        FourierMotzkin body = new FourierMotzkin();
        due("15: axis -1", body.shadow(-1, 0, 0, 1), -1);
        due("15: axis 3", body.shadow(3, 0, 0, 1), -1);
        due("15: axis before k", body.shadow(3, 401, 0, 0), -1);
        due("15: k 0", body.shadow(0, 0, 0, 0), -2);
        due("15: k 21", body.shadow(0, 0, 0, 21), -2);
        due("15: k before p", body.shadow(0, 401, 0, 21), -2);
        for (int far : FAR) {
            due("15: far axis", body.shadow(far, 0, 0, 1), -1);
            due("15: far k", body.shadow(0, 0, 0, far), -2);
            due("15: far p", body.shadow(0, far, 0, 1), -3);
            due("15: far q", body.shadow(0, 0, far, 1), -3);
        }
        for (int axis = 0; axis < 3; axis++) {
            for (int sign = -1; sign <= 1; sign += 2) {
                due("15: p 401", body.shadow(axis, sign * 401, 0, 20), -3);
                due("15: q 401", body.shadow(axis, 0, sign * 401, 20), -3);
                due("15: p 400", body.shadow(axis, sign * 400, 0, 20), 0);
                due("15: q 400", body.shadow(axis, 0, sign * 400, 20), 0);
                due("15: p at the wall", body.shadow(axis, sign * 200, 0, 20), 1);
                due("15: q at the wall", body.shadow(axis, 0, sign * 70, 7), 1);
                due("15: p out", body.shadow(axis, sign * 201, 0, 20), 0);
                due("15: q out", body.shadow(axis, 0, sign * 71, 7), 0);
            }
        }
        shadowOfSomePoint();
        due("15: of none", Bodies.nothing().shadow(0, 0, 0, 1), 0);
        due("15: of none, wrong", Bodies.nothing().shadow(0, 0, 401, 1), -3);
        due("15: the half point", Bodies.halfPoint().shadow(1, 10, 10, 20), 1);
        due("15: beside it", Bodies.halfPoint().shadow(1, 10, 11, 20), 0);
        FourierMotzkin none = new FourierMotzkin();
        none.add(slope(0, 0, 0), -1);
        due("15: 0 <= -1", none.shadow(2, 0, 0, 1), 0);
    }

    /** The point 1, 2, 3 tells the order of the axes. */
    private static void shadowOfSomePoint() {
        FourierMotzkin body = new FourierMotzkin();
        body.add(slope(1, 0, 0), 1);
        body.add(slope(-1, 0, 0), -1);
        body.add(slope(0, 1, 0), 2);
        body.add(slope(0, -1, 0), -2);
        body.add(slope(1, 1, 1), 6);
        body.add(slope(-1, -1, -1), -6);
        due("15: y, z", body.shadow(0, 2, 3, 1), 1);
        due("15: z, y", body.shadow(0, 3, 2, 1), 0);
        due("15: x, z", body.shadow(1, 1, 3, 1), 1);
        due("15: z, x", body.shadow(1, 3, 1, 1), 0);
        due("15: x, y", body.shadow(2, 1, 2, 1), 1);
        due("15: y, x", body.shadow(2, 2, 1, 1), 0);
        due("15: twice", body.shadow(0, 4, 6, 2), 1);
        due("15: half", body.shadow(0, 2, 3, 2), 0);
    }

    private static void shadowGrid() {
        FourierMotzkin body = new FourierMotzkin();
        due("16: axis -1", body.shadowGrid(-1), -1);
        due("16: axis 3", body.shadowGrid(3), -1);
        for (int far : FAR) {
            due("16: far axis", body.shadowGrid(far), -1);
        }
        body.add(slope(1, 0, 0), 0);
        body.add(slope(0, -1, 0), -8);
        due("16: y, z", body.shadowGrid(0), 3 * 21);
        due("16: x, z", body.shadowGrid(1), 11 * 21);
        due("16: x, y", body.shadowGrid(2), 11 * 3);
        body.add(slope(0, 0, 2), 1);
        body.add(slope(0, 0, -2), -1);
        due("16: z is a half, y", body.shadowGrid(0), 0);
        due("16: z is a half, x", body.shadowGrid(1), 0);
        due("16: z is a half, not asked", body.shadowGrid(2), 11 * 3);
        due("16: of none", Bodies.nothing().shadowGrid(2), 0);
        due("16: axis before empty", Bodies.nothing().shadowGrid(3), -1);
        FourierMotzkin skew = new FourierMotzkin();
        skew.add(slope(1, -1, 1), 3);
        skew.add(slope(2, 3, -4), -5);
        int found = 0;
        for (int p = -10; p <= 10; p++) {
            for (int q = -10; q <= 10; q++) {
                found += skew.shadow(1, p, q, 1);
            }
        }
        due("16: as shadow tells", skew.shadowGrid(1), found);
    }

    private static void single() {
        due("17: the half point", Bodies.halfPoint().single(), 1);
        due("17: none", Bodies.nothing().single(), 0);
        FourierMotzkin body = Bodies.halfPoint();
        for (int bound = 0; bound < 6; bound++) {
            int before = body.move(bound, 2);
            due("17: a line", body.single(), 0);
            body.move(bound, before);
            due("17: the point again", body.single(), 1);
        }
        FourierMotzkin corner = new FourierMotzkin();
        corner.add(slope(-1, 1, -1), -29);
        due("17: a small corner", corner.single(), 0);
        corner.move(0, -30);
        due("17: the corner", corner.single(), 1);
        corner.move(0, -31);
        due("17: past the corner", corner.single(), 0);
        corner.move(0, -30);
        corner.add(slope(0, 0, 0), -1);
        due("17: 0 <= -1", corner.single(), 0);
    }

    private static void objectsAreApart() {
        FourierMotzkin one = new FourierMotzkin();
        FourierMotzkin other = new FourierMotzkin();
        one.add(slope(1, 0, 0), 1);
        other.add(slope(0, 1, 0), 2);
        other.add(slope(0, 0, 1), 3);
        due("1: the one", one.bounds(), 1);
        due("1: the other", other.bounds(), 2);
        dueMost("1: the one", one, 0, 1, 1);
        dueMost("1: the other", other, 0, 10, 1);
    }

    private static void refusedCallsChangeNothing() {
        FourierMotzkin body = Bodies.halfPoint();
        body.add(slope(1, 1, 1), 2);
        long before = answers(body);
        body.add(0, 0);
        body.add(729, 0);
        body.add(0, 41);
        body.remove(7);
        body.remove(-1);
        body.move(7, 0);
        body.move(0, 41);
        body.follows(729, 0);
        body.support(-1);
        due("a refused call", answers(body), before);
        due("d is as it was", body.move(0, 1), 1);
    }

    private static void questionsChangeNothing() {
        FourierMotzkin body = new FourierMotzkin();
        body.add(slope(3, 2, -1), 4);
        body.add(slope(-1, 2, 2), 7);
        body.add(slope(0, -3, 1), -2);
        long before = answers(body);
        for (int again = 0; again < 3; again++) {
            due("a question", answers(body), before);
        }
        body.redundant(1);
        body.follows(0, 0);
        due("empty after redundant and follows", body.empty(), 0);
        due("all after them", answers(body), before);
    }

    /** Many answers mixed to one number, so that a change in any of them is seen. */
    private static long answers(FourierMotzkin body) {
        long mixed = body.bounds();
        mixed = 31 * mixed + body.empty();
        mixed = 31 * mixed + body.single();
        for (int bound = 0; bound < 7; bound++) {
            mixed = 31 * mixed + body.redundant(bound);
        }
        for (int axis = 0; axis < 3; axis++) {
            mixed = 31 * mixed + body.mostTop(axis);
            mixed = 31 * mixed + body.mostBottom(axis);
            mixed = 31 * mixed + body.leastTop(axis);
            mixed = 31 * mixed + body.leastBottom(axis);
            mixed = 31 * mixed + body.shadowGrid(axis);
            mixed = 31 * mixed + body.shadow(axis, 1, 1, 2);
        }
        mixed = 31 * mixed + body.follows(500, 3);
        mixed = 31 * mixed + body.support(500);
        return 31 * mixed + body.has(1, 1, 1, 2);
    }
}
