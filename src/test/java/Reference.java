import java.util.ArrayList;
import java.util.Collection;
import java.util.LinkedHashMap;
import java.util.List;
import java.util.Map;

/**
 * The document said a second time, by elimination: from all pairs of rows that hold a coordinate
 * from above and from below comes a system without it. A row is {a, b, c, d, strict}.
 */
final class Reference {
    private final List<int[]> list = new ArrayList<>();

    int add(int slope, int d) {
        if (slope < 0 || slope > 728) {
            return -1;
        }
        if (d < -40 || d > 40) {
            return -2;
        }
        if (list.size() == 7) {
            return -3;
        }
        list.add(new int[] {slope, d});
        return list.size() - 1;
    }

    int remove(int bound) {
        if (bound < 0 || bound >= list.size()) {
            return -1;
        }
        list.remove(bound);
        return list.size();
    }

    int move(int bound, int d) {
        if (bound < 0 || bound >= list.size()) {
            return -1;
        }
        if (d < -40 || d > 40) {
            return -2;
        }
        int before = list.get(bound)[1];
        list.get(bound)[1] = d;
        return before;
    }

    int bounds() {
        return list.size();
    }

    int empty() {
        return hasPoint(body(-1)) ? 0 : 1;
    }

    /** Numerator and denominator of the farthest coordinate; sign is 1 for most, -1 for least. */
    long[] reach(int axis, int sign) {
        if (axis < 0 || axis > 2) {
            return new long[] {-1000000, 0};
        }
        List<long[]> rows = body(-1);
        if (!hasPoint(rows)) {
            return new long[] {-2000000, 0};
        }
        for (int other = 0; other < 3; other++) {
            if (other != axis) {
                rows = without(rows, other);
            }
        }
        long top = sign * 1000;
        long bottom = 1;
        for (long[] row : rows) {
            long factor = row[axis] * sign;
            if (factor > 0 && row[3] * bottom < sign * top * factor) {
                top = sign * row[3];
                bottom = factor;
            }
        }
        long divisor = gcd(top, bottom);
        return new long[] {top / divisor, bottom / divisor};
    }

    int follows(int slope, int d) {
        if (slope < 0 || slope > 728) {
            return -1;
        }
        if (d < -1000 || d > 1000) {
            return -2;
        }
        return allKeep(body(-1), slope, d) ? 1 : 0;
    }

    int support(int slope) {
        if (slope < 0 || slope > 728) {
            return -1000;
        }
        List<long[]> rows = body(-1);
        if (!hasPoint(rows)) {
            return -2000;
        }
        int tooLow = -200;
        int enough = 200;
        while (enough - tooLow > 1) {
            int middle = Math.floorDiv(tooLow + enough, 2);
            if (allKeep(rows, slope, middle)) {
                enough = middle;
            } else {
                tooLow = middle;
            }
        }
        return enough;
    }

    int redundant(int bound) {
        if (bound < 0 || bound >= list.size()) {
            return -1;
        }
        return allKeep(body(bound), list.get(bound)[0], list.get(bound)[1]) ? 1 : 0;
    }

    int has(int x, int y, int z, int k) {
        if (k < 1 || k > 20) {
            return -1;
        }
        if (Math.max(Math.max(x, y), z) > 400 || Math.min(Math.min(x, y), z) < -400) {
            return -2;
        }
        return inAll(body(-1), new long[] {x, y, z}, k) ? 1 : 0;
    }

    int shadow(int axis, int p, int q, int k) {
        if (axis < 0 || axis > 2) {
            return -1;
        }
        if (k < 1 || k > 20) {
            return -2;
        }
        if (Math.max(p, q) > 400 || Math.min(p, q) < -400) {
            return -3;
        }
        return inAll(without(body(-1), axis), over(axis, p, q), k) ? 1 : 0;
    }

    int shadowGrid(int axis) {
        if (axis < 0 || axis > 2) {
            return -1;
        }
        List<long[]> flat = without(body(-1), axis);
        int found = 0;
        for (int p = -12; p <= 12; p++) {
            for (int q = -12; q <= 12; q++) {
                found += inAll(flat, over(axis, p, q), 1) ? 1 : 0;
            }
        }
        return found;
    }

    int single() {
        if (empty() == 1) {
            return 0;
        }
        for (int axis = 0; axis < 3; axis++) {
            long[] most = reach(axis, 1);
            long[] least = reach(axis, -1);
            if (most[0] != least[0] || most[1] != least[1]) {
                return 0;
            }
        }
        return 1;
    }

    private static long[] over(int axis, int p, int q) {
        if (axis == 0) {
            return new long[] {0, p, q};
        }
        return axis == 1 ? new long[] {p, 0, q} : new long[] {p, q, 0};
    }

    private List<long[]> body(int leftOut) {
        List<long[]> rows = new ArrayList<>();
        for (int axis = 0; axis < 3; axis++) {
            for (int sign = -1; sign <= 1; sign += 2) {
                long[] wall = {0, 0, 0, 10, 0};
                wall[axis] = sign;
                rows.add(wall);
            }
        }
        for (int bound = 0; bound < list.size(); bound++) {
            if (bound != leftOut) {
                rows.add(row(list.get(bound)[0], list.get(bound)[1]));
            }
        }
        return rows;
    }

    private static long[] row(int slope, int d) {
        return new long[] {slope / 81 - 4, slope / 9 % 9 - 4, slope % 9 - 4, d, 0};
    }

    private static boolean inAll(List<long[]> rows, long[] point, int k) {
        for (long[] row : rows) {
            if (row[0] * point[0] + row[1] * point[1] + row[2] * point[2] > row[3] * k) {
                return false;
            }
        }
        return true;
    }

    /** All points keep a bound if none is strictly on its other side. */
    private static boolean allKeep(List<long[]> rows, int slope, int d) {
        long[] kept = row(slope, d);
        List<long[]> more = new ArrayList<>(rows);
        more.add(new long[] {-kept[0], -kept[1], -kept[2], -kept[3], 1});
        return !hasPoint(more);
    }

    private static boolean hasPoint(List<long[]> rows) {
        List<long[]> left = rows;
        for (int axis = 0; axis < 3; axis++) {
            left = without(left, axis);
        }
        for (long[] row : left) {
            if (row[3] < 0 || row[3] == 0 && row[4] == 1) {
                return false;
            }
        }
        return true;
    }

    private static List<long[]> without(Collection<long[]> rows, int axis) {
        Map<List<Long>, long[]> made = new LinkedHashMap<>();
        for (long[] upper : rows) {
            if (upper[axis] == 0) {
                put(made, upper);
            }
            for (long[] lower : rows) {
                if (upper[axis] > 0 && lower[axis] < 0) {
                    put(made, joined(upper, lower, axis));
                }
            }
        }
        return new ArrayList<>(made.values());
    }

    private static long[] joined(long[] upper, long[] lower, int axis) {
        long[] sum = new long[5];
        for (int i = 0; i < 4; i++) {
            sum[i] = Math.addExact(Math.multiplyExact(upper[i], -lower[axis]),
                    Math.multiplyExact(lower[i], upper[axis]));
        }
        sum[4] = Math.max(upper[4], lower[4]);
        long divisor = Math.max(1, gcd(gcd(sum[0], sum[1]), gcd(sum[2], sum[3])));
        for (int i = 0; i < 4; i++) {
            sum[i] /= divisor;
        }
        return sum;
    }

    /** Of rows with the same factors only the tightest is kept, or there would be too many. */
    private static void put(Map<List<Long>, long[]> made, long[] row) {
        List<Long> factors = List.of(row[0], row[1], row[2]);
        long[] old = made.get(factors);
        if (old == null || row[3] < old[3] || row[3] == old[3] && row[4] > old[4]) {
            made.put(factors, row);
        }
    }

    private static long gcd(long one, long other) {
        long a = Math.abs(one);
        long b = Math.abs(other);
        while (b != 0) {
            long rest = a % b;
            a = b;
            b = rest;
        }
        return a;
    }
}
