/** Long runs of calls, beside the second program Model. The runs are the same each time. */
public final class ModelTest {
    private static final int RUNS = 60;
    private static final int CALLS = 512;

    private static final Due D = new Due();
    private static long seed = 20261115L;

    public static void main(String[] args) {
        for (int run = 0; run < RUNS; run++) {
            oneRun(run);
        }
        D.end();
    }

    private static int below(int bound) {
        seed = seed * 6364136223846793005L + 1442695040888963407L;
        return (int) ((seed >>> 33) % bound);
    }

    private static int between(int low, int high) {
        return low + below(high - low + 1);
    }

    private static void oneRun(int run) {
        Beside x = new Beside(D, "run " + run);
        // Some runs keep to small factors and wide limits, so that the points do not run out.
        int width = run % 3 == 0 ? 5 : 2;
        while (x.calls() < CALLS) {
            if (below(3) == 0) {
                change(x, width);
            } else {
                ask(x, width);
            }
        }
    }

    private static int someFactors(int width) {
        if (below(12) == 0) {
            return (below(1 << 16) << 16) | below(1 << 16);
        }
        return Due.f(between(-width, width), between(-width, width), between(-width, width));
    }

    private static int someBound(int width) {
        int kind = below(12);
        if (kind == 0) {
            return between(98, 103);
        }
        return kind == 1 ? between(-103, -98) : between(-3 * width, 8 * width);
    }

    private static void change(Beside x, int width) {
        int limit = between(-1, 6);
        int f = someFactors(width);
        int d = someBound(width);
        switch (below(6)) {
            case 0 -> {
                int v = below(8) == 0 ? between(-2, 4) : below(3);
                x.range(v, between(-9, 4), between(-2, 9));
            }
            case 1, 2 -> x.limit(f, d);
            case 3 -> x.relax(limit, d);
            case 4 -> x.turn(limit, below(2) == 0);
            default -> x.drop();
        }
    }

    private static void ask(Beside x, int width) {
        int v = between(-1, 3);
        int limit = between(-1, 6);
        int f = someFactors(width);
        switch (below(8)) {
            case 0 -> x.points();
            case 1 -> x.first(v);
            case 2 -> x.greatest(f);
            case 3 -> x.follows(f, between(-10, 20 * width));
            case 4 -> x.numbers(v);
            case 5 -> x.idle(limit);
            case 6 -> x.core();
            default -> x.tight(limit);
        }
    }
}
