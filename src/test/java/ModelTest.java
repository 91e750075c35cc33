import java.util.ArrayList;
import java.util.List;
import java.util.TreeSet;

/**
 * Long runs of calls, beside a second program that is written straight from the document: it
 * lists the points and reads every answer off the list. The runs are the same each time.
 */
public final class ModelTest {
    private static final int RUNS = 60;
    private static final int CALLS = 512;

    private final int[][] ranges = {{-8, 8}, {-8, 8}, {-8, 8}};
    private final List<int[]> limits = new ArrayList<>();

    private static final Due D = new Due();
    private static long seed = 20261115L;

    public static void main(String[] args) {
        for (int run = 0; run < RUNS; run++) {
            oneRun(run);
        }
        D.end();
    }

    private static int below(int bound) {
        seed = seed * 6364136223846793005L + 1442695040888963407L;
        return (int) ((seed >>> 33) % bound);
    }

    private static int between(int low, int high) {
        return low + below(high - low + 1);
    }

    private static void oneRun(int run) {
        IntegerBox x = new IntegerBox();
        ModelTest m = new ModelTest();
        // Some runs keep to small factors and wide limits, so that the points do not run out.
        int width = run % 3 == 0 ? 5 : 2;
        for (int call = 0; call < CALLS; call++) {
            String at = "run " + run + ", call " + call + ": ";
            if (below(3) == 0) {
                change(at, x, m, width);
            } else {
                ask(at, x, m, width);
            }
        }
    }

    private static int someFactors(int width) {
        if (below(12) == 0) {
            return (below(1 << 16) << 16) | below(1 << 16);
        }
        return Due.f(between(-width, width), between(-width, width), between(-width, width));
    }

    private static int someBound(int width) {
        int kind = below(12);
        if (kind == 0) {
            return between(98, 103);
        }
        return kind == 1 ? between(-103, -98) : between(-3 * width, 8 * width);
    }

    private static void change(String at, IntegerBox x, ModelTest m, int width) {
        int limit = between(-1, 6);
        int f = someFactors(width);
        int d = someBound(width);
        switch (below(6)) {
            case 0 -> {
                int v = below(8) == 0 ? between(-2, 4) : below(3);
                int low = between(-9, 4);
                int high = between(-2, 9);
                D.due(at + "range(" + v + ", " + low + ", " + high + ")",
                    x.range(v, low, high), m.range(v, low, high));
            }
            case 1, 2 -> D.due(at + "limit(" + f + ", " + d + ")", x.limit(f, d), m.limit(f, d));
            case 3 -> D.due(at + "relax(" + limit + ", " + d + ")",
                x.relax(limit, d), m.relax(limit, d));
            case 4 -> {
                boolean on = below(2) == 0;
                D.due(at + "turn(" + limit + ", " + on + ")", x.turn(limit, on), m.turn(limit, on));
            }
            default -> D.due(at + "drop()", x.drop(), m.drop());
        }
    }

    private static void ask(String at, IntegerBox x, ModelTest m, int width) {
        int v = between(-1, 3);
        int limit = between(-1, 6);
        int f = someFactors(width);
        int d = between(-10, 20 * width);
        switch (below(8)) {
            case 0 -> D.due(at + "points()", x.points(), m.points(-1).size());
            case 1 -> D.due(at + "first(" + v + ")", x.first(v), m.first(v));
            case 2 -> D.due(at + "greatest(" + f + ")", x.greatest(f), m.greatest(f));
            case 3 -> D.due(at + "follows(" + f + ", " + d + ")", x.follows(f, d), m.follows(f, d));
            case 4 -> D.due(at + "numbers(" + v + ")", x.numbers(v), m.numbers(v));
            case 5 -> D.due(at + "idle(" + limit + ")", x.idle(limit), m.idle(limit));
            case 6 -> D.due(at + "core()", x.core(), m.core());
            default -> D.due(at + "tight(" + limit + ")", x.tight(limit), m.tight(limit));
        }
    }

    // From here on the second program. A limit is a, b, c, d and 1 if it is on.

    private static int[] factors(int f) {
        int[] abc = {(f & 15) - 5, ((f >> 4) & 15) - 5, ((f >> 8) & 15) - 5};
        return abc[0] > 5 || abc[1] > 5 || abc[2] > 5 ? null : abc;
    }

    private static int sum(int[] abc, int[] p) {
        return abc[0] * p[0] + abc[1] * p[1] + abc[2] * p[2];
    }

    /** The points if, of the limits that are on, only those in the mask were. */
    private List<int[]> points(int mask) {
        List<int[]> found = new ArrayList<>();
        for (int x0 = ranges[0][0]; x0 <= ranges[0][1]; x0++) {
            for (int x1 = ranges[1][0]; x1 <= ranges[1][1]; x1++) {
                for (int x2 = ranges[2][0]; x2 <= ranges[2][1]; x2++) {
                    int[] p = {x0, x1, x2};
                    boolean holds = true;
                    for (int i = 0; i < limits.size(); i++) {
                        int[] l = limits.get(i);
                        boolean counts = l[4] == 1 && (mask & (1 << i)) != 0;
                        holds = holds && (!counts || sum(l, p) <= l[3]);
                    }
                    if (holds) {
                        found.add(p);
                    }
                }
            }
        }
        return found;
    }

    private int range(int v, int low, int high) {
        if (v < 0 || v > 2) {
            return -1;
        }
        if (!(-8 <= low && low <= high && high <= 8)) {
            return -3;
        }
        ranges[v] = new int[] {low, high};
        return high - low + 1;
    }

    private int limit(int f, int d) {
        int[] abc = factors(f);
        if (abc == null) {
            return -2;
        }
        if (Math.abs(d) > 100) {
            return -3;
        }
        if (limits.size() == 6) {
            return -4;
        }
        limits.add(new int[] {abc[0], abc[1], abc[2], d, 1});
        return limits.size() - 1;
    }

    private boolean isLimit(int limit) {
        return limit >= 0 && limit < limits.size();
    }

    private int relax(int limit, int d) {
        if (!isLimit(limit)) {
            return -5;
        }
        if (Math.abs(d) > 100) {
            return -3;
        }
        int old = limits.get(limit)[3];
        limits.get(limit)[3] = d;
        return old;
    }

    private int turn(int limit, boolean on) {
        if (!isLimit(limit)) {
            return -5;
        }
        int was = limits.get(limit)[4];
        limits.get(limit)[4] = on ? 1 : 0;
        return was;
    }

    private int drop() {
        if (limits.isEmpty()) {
            return -5;
        }
        limits.remove(limits.size() - 1);
        return limits.size();
    }

    private int first(int v) {
        if (v < 0 || v > 2) {
            return -1;
        }
        List<int[]> all = points(-1);
        return all.isEmpty() ? -10000 : all.get(0)[v];
    }

    private int greatest(int f) {
        int[] abc = factors(f);
        if (abc == null) {
            return -2;
        }
        TreeSet<Integer> sums = new TreeSet<>();
        points(-1).forEach(p -> sums.add(sum(abc, p)));
        return sums.isEmpty() ? -10000 : sums.last();
    }

    private boolean follows(int f, int d) {
        int[] abc = factors(f);
        return abc != null && points(-1).stream().allMatch(p -> sum(abc, p) <= d);
    }

    private int numbers(int v) {
        if (v < 0 || v > 2) {
            return -1;
        }
        return points(-1).stream().mapToInt(p -> 1 << (p[v] + 8)).reduce(0, (a, b) -> a | b);
    }

    private boolean idle(int limit) {
        return isLimit(limit) && limits.get(limit)[4] == 1
            && points(~(1 << limit)).size() == points(-1).size();
    }

    private int core() {
        if (!points(-1).isEmpty()) {
            return -10000;
        }
        int least = 6;
        for (int mask = 0; mask < 64; mask++) {
            if (Integer.bitCount(mask) < least && points(mask).isEmpty()) {
                least = Integer.bitCount(mask);
            }
        }
        return least;
    }

    private int tight(int limit) {
        if (!isLimit(limit)) {
            return -5;
        }
        int[] l = limits.get(limit);
        return (int) points(-1).stream().filter(p -> sum(l, p) == l[3]).count();
    }
}
