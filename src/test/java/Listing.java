import java.util.function.Supplier;

/**
 * Reads the whole list of an object through its public face. To read one bound the others are taken
 * out, so every bound is read from an object of its own, made by the same calls.
 */
final class Listing {
    private Listing() {
    }

    static String of(Supplier<FourierMotzkin> maker) {
        int count = maker.get().bounds();
        StringBuilder text = new StringBuilder();
        for (int number = 0; number < count; number++) {
            FourierMotzkin body = maker.get();
            for (int last = count - 1; last > number; last--) {
                body.remove(last);
            }
            for (int first = 0; first < number; first++) {
                body.remove(0);
            }
            text.append(text.length() == 0 ? "" : ", ").append(onlyBound(body));
        }
        return "[" + text + "]";
    }

    /** The list that is due, written the same way. */
    static String due(int... slopesAndDs) {
        StringBuilder text = new StringBuilder();
        for (int i = 0; i < slopesAndDs.length; i += 2) {
            text.append(i == 0 ? "" : ", ").append(slopesAndDs[i] + " <= " + slopesAndDs[i + 1]);
        }
        return "[" + text + "]";
    }

    private static String onlyBound(FourierMotzkin body) {
        int d = body.move(0, 0);
        int slope = onlySlope(body);
        body.move(0, d);
        return slope + " <= " + d;
    }

    /** The point at 10 along an axis keeps the bound from 10 times the axis's factor on. */
    private static int onlySlope(FourierMotzkin body) {
        int[] factors = {9, 9, 9};
        for (int factor = 4; factor >= -4; factor--) {
            body.move(0, 10 * factor);
            for (int axis = 0; axis < 3; axis++) {
                if (body.has(axis == 0 ? 10 : 0, axis == 1 ? 10 : 0, axis == 2 ? 10 : 0, 1) == 1) {
                    factors[axis] = factor;
                }
            }
        }
        return Bodies.slope(factors[0], factors[1], factors[2]);
    }
}
