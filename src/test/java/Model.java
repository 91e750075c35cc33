import java.util.ArrayList;
import java.util.List;
import java.util.TreeSet;

/**
 * A second program, written straight from the document: it lists the points and reads every
 * answer off the list. A limit is a, b, c, d and 1 if it is on.
 */
final class Model {
    private final int[][] ranges = {{-8, 8}, {-8, 8}, {-8, 8}};
    private final List<int[]> limits = new ArrayList<>();

    int limits() {
        return limits.size();
    }

    private static int[] factors(int f) {
        int[] abc = {(f & 15) - 5, ((f >> 4) & 15) - 5, ((f >> 8) & 15) - 5};
        return abc[0] > 5 || abc[1] > 5 || abc[2] > 5 ? null : abc;
    }

    private static int sum(int[] abc, int[] p) {
        return abc[0] * p[0] + abc[1] * p[1] + abc[2] * p[2];
    }

    /** The points if, of the limits that are on, only those in the mask were. */
    private List<int[]> points(int mask) {
        List<int[]> found = new ArrayList<>();
        for (int x0 = ranges[0][0]; x0 <= ranges[0][1]; x0++) {
            for (int x1 = ranges[1][0]; x1 <= ranges[1][1]; x1++) {
                for (int x2 = ranges[2][0]; x2 <= ranges[2][1]; x2++) {
                    int[] p = {x0, x1, x2};
                    boolean holds = true;
                    for (int i = 0; i < limits.size(); i++) {
                        int[] l = limits.get(i);
                        boolean counts = l[4] == 1 && (mask & (1 << i)) != 0;
                        holds = holds && (!counts || sum(l, p) <= l[3]);
                    }
                    if (holds) {
                        found.add(p);
                    }
                }
            }
        }
        return found;
    }

    int points() {
        return points(-1).size();
    }

    int range(int v, int low, int high) {
        if (v < 0 || v > 2) {
            return -1;
        }
        if (!(-8 <= low && low <= high && high <= 8)) {
            return -3;
        }
        ranges[v] = new int[] {low, high};
        return high - low + 1;
    }

    int limit(int f, int d) {
        int[] abc = factors(f);
        if (abc == null) {
            return -2;
        }
        if (d < -100 || d > 100) {
            return -3;
        }
        if (limits.size() == 6) {
            return -4;
        }
        limits.add(new int[] {abc[0], abc[1], abc[2], d, 1});
        return limits.size() - 1;
    }

    private boolean isLimit(int limit) {
        return limit >= 0 && limit < limits.size();
    }

    int relax(int limit, int d) {
        if (!isLimit(limit)) {
            return -5;
        }
        if (d < -100 || d > 100) {
            return -3;
        }
        int old = limits.get(limit)[3];
        limits.get(limit)[3] = d;
        return old;
    }

    int turn(int limit, boolean on) {
        if (!isLimit(limit)) {
            return -5;
        }
        int was = limits.get(limit)[4];
        limits.get(limit)[4] = on ? 1 : 0;
        return was;
    }

    int drop() {
        if (limits.isEmpty()) {
            return -5;
        }
        limits.remove(limits.size() - 1);
        return limits.size();
    }

    int first(int v) {
        if (v < 0 || v > 2) {
            return -1;
        }
        List<int[]> all = points(-1);
        return all.isEmpty() ? -10000 : all.get(0)[v];
    }

    int greatest(int f) {
        int[] abc = factors(f);
        if (abc == null) {
            return -2;
        }
        TreeSet<Integer> sums = new TreeSet<>();
        points(-1).forEach(p -> sums.add(sum(abc, p)));
        return sums.isEmpty() ? -10000 : sums.last();
    }

    boolean follows(int f, int d) {
        int[] abc = factors(f);
        return abc != null && points(-1).stream().allMatch(p -> sum(abc, p) <= d);
    }

    int numbers(int v) {
        if (v < 0 || v > 2) {
            return -1;
        }
        return points(-1).stream().mapToInt(p -> 1 << (p[v] + 8)).reduce(0, (a, b) -> a | b);
    }

    boolean idle(int limit) {
        return isLimit(limit) && limits.get(limit)[4] == 1
            && points(~(1 << limit)).size() == points(-1).size();
    }

    int core() {
        if (!points(-1).isEmpty()) {
            return -10000;
        }
        int least = 6;
        for (int mask = 0; mask < 64; mask++) {
            if (Integer.bitCount(mask) < least && points(mask).isEmpty()) {
                least = Integer.bitCount(mask);
            }
        }
        return least;
    }

    int tight(int limit) {
        if (!isLimit(limit)) {
            return -5;
        }
        int[] l = limits.get(limit);
        return (int) points(-1).stream().filter(p -> sum(l, p) == l[3]).count();
    }
}
