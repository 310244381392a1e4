/** Bodies that more than one test asks about. Every call makes a new object. */
final class Bodies {
    private Bodies() {
    }

    static int slope(int a, int b, int c) {
        return 81 * (a + 4) + 9 * (b + 4) + (c + 4);
    }

    /** The slope of a factor times the coordinate along one axis. */
    static int along(int axis, int factor) {
        return slope(axis == 0 ? factor : 0, axis == 1 ? factor : 0, axis == 2 ? factor : 0);
    }

    /** The body of these bounds: a slope and its d, the next slope and its d, and so on. */
    static FourierMotzkin of(int... slopesAndDs) {
        FourierMotzkin body = new FourierMotzkin();
        for (int i = 0; i < slopesAndDs.length; i += 2) {
            body.add(slopesAndDs[i], slopesAndDs[i + 1]);
        }
        return body;
    }

    static FourierMotzkin nothing() {
        return of(slope(1, 0, 0), -11);
    }

    static FourierMotzkin cube() {
        return new FourierMotzkin();
    }

    /** x = y = z = 1/2, from three planes and their backs. */
    static FourierMotzkin halfPoint() {
        return of(slope(2, 0, 0), 1, slope(-2, 0, 0), -1, slope(0, 2, 0), 1, slope(0, -2, 0), -1,
                slope(0, 0, 2), 1, slope(0, 0, -2), -1);
    }

    /** One point with whole coordinates, from three planes and their backs. */
    static FourierMotzkin point(int x, int y, int z) {
        return of(slope(1, 0, 0), x, slope(-1, 0, 0), -x, slope(0, 1, 0), y, slope(0, -1, 0), -y,
                slope(0, 0, 1), z, slope(0, 0, -1), -z);
    }

    /**
     * Four planes, of which 168, 196, 172 and 193 times the factors add up to nought. So there is
     * no point if the same sum of their limits is less than nought, one if it is nought, and more
     * if it is greater. The three bodies below have the sums -1, 0 and 1: the closest there are.
     */
    private static FourierMotzkin fourPlanes(int first, int second, int third, int fourth) {
        return of(slope(3, 4, 3), first, slope(-3, -3, 4), second, slope(-4, 4, -3), third,
                slope(4, -4, -4), fourth);
    }

    static FourierMotzkin emptyByAHair() {
        return fourPlanes(1, 1, -1, -1);
    }

    static FourierMotzkin pointByAHair() {
        return fourPlanes(0, 0, 0, 0);
    }

    /** x is in -1/24 .. -7/172, y in -1/168 .. -1/196 and z in -2/7 .. -49/172. */
    static FourierMotzkin sliver() {
        return fourPlanes(-1, -1, 1, 1);
    }

    /** A list of 7 with no two slopes or limits alike; the body has points. */
    static FourierMotzkin full() {
        return of(slope(3, 2, -1), 4, slope(-1, 2, 2), 7, slope(0, -3, 1), -2, slope(4, -4, 1), 30,
                slope(-4, 0, 3), 40, slope(1, 1, 1), 9, slope(0, 0, -2), 11);
    }

    /** A list of 7, of which the fourth is kept by no point. */
    static FourierMotzkin fullAndEmpty() {
        return of(slope(3, 2, -1), 4, slope(-1, 2, 2), 7, slope(0, -3, 1), -2, slope(0, 0, 0), -40,
                slope(-4, 0, 3), 40, slope(1, 1, 1), 9, slope(0, 0, -2), 11);
    }
}
