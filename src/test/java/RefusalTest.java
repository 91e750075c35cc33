import java.util.function.Supplier;
import java.util.function.ToIntFunction;

/**
 * "Tests are made in the order in which they are named; a refused call changes nothing": for
 * each of the calls range, limit, relax, turn and drop, on objects of several kinds.
 */
public final class RefusalTest {
    private static final Due D = new Due();
    private static final int GOOD = Due.f(1, 0, -1);
    private static final int LEAST = Integer.MIN_VALUE;
    private static final int MOST = Integer.MAX_VALUE;
    private static final int[] NOT_VARIABLES = {-1, 3, 4, 32, LEAST, MOST};
    private static final int[] NOT_BOUNDS = {-101, 101, -1000, 1000, LEAST, MOST};
    private static final int[][] NOT_RANGES = {
        {-9, 8}, {-8, 9}, {-9, 9}, {1, 0}, {8, -8}, {9, 9}, {-9, -9}, {9, 8}, {-8, -9},
        {LEAST, 0}, {0, MOST}, {LEAST, MOST}, {MOST, LEAST}, {MOST, MOST}, {LEAST, LEAST},
        {8, LEAST}, {-8, LEAST}, {MOST, -8}, {MOST, 8}, {-8, MOST}, {LEAST, 8}};
    private static final int[] NOT_FACTORS = {
        Due.f(6, 0, 0), Due.f(0, 6, 0), Due.f(0, 0, 6), Due.f(10, 10, 10), -1};

    public static void main(String[] args) {
        rangeBadVariable();
        rangeBadNumber();
        rangeOrder();
        limitBadFactor();
        limitBadNumber();
        limitFull();
        limitOrder();
        relaxBadLimit();
        relaxBadNumber();
        relaxOrder();
        turnBadLimit();
        dropOfNone();
        D.end();
    }

    /** The call answers what is due, and leaves the object as it is without the call. */
    private static void refused(int kind, String call, int due, ToIntFunction<IntegerBox> made) {
        String what = call + " on kind " + kind;
        int limits = Boxes.limits(kind);
        D.due(what, made.applyAsInt(Boxes.make(kind)), due);
        Supplier<IntegerBox> after = () -> {
            IntegerBox x = Boxes.make(kind);
            made.applyAsInt(x);
            return x;
        };
        Supplier<IntegerBox> without = () -> Boxes.make(kind);
        D.same(what, Whole.byNumbers(after, limits), Whole.byNumbers(without, limits));
        D.same(what, Whole.byAnswers(after, limits), Whole.byAnswers(without, limits));
    }

    private static void rangeBadVariable() {
        D.sentence("range: v not in 0 to 2: BAD_VARIABLE");
        for (int kind = 0; kind < Boxes.KINDS; kind++) {
            for (int v : NOT_VARIABLES) {
                refused(kind, "range(" + v + ", 0, 0)", -1, x -> x.range(v, 0, 0));
            }
        }
    }

    private static void rangeBadNumber() {
        D.sentence("range: not -8 <= low <= high <= 8: BAD_NUMBER");
        for (int kind = 0; kind < Boxes.KINDS; kind++) {
            for (int[] ends : NOT_RANGES) {
                String numbers = ", " + ends[0] + ", " + ends[1] + ")";
                refused(kind, "range(0" + numbers, -3, x -> x.range(0, ends[0], ends[1]));
                refused(kind, "range(1" + numbers, -3, x -> x.range(1, ends[0], ends[1]));
                refused(kind, "range(2" + numbers, -3, x -> x.range(2, ends[0], ends[1]));
            }
        }
    }

    private static void rangeOrder() {
        D.sentence("range: BAD_VARIABLE is tested before BAD_NUMBER");
        for (int v : NOT_VARIABLES) {
            for (int[] ends : NOT_RANGES) {
                String call = "range(" + v + ", " + ends[0] + ", " + ends[1] + ")";
                refused(1, call, -1, x -> x.range(v, ends[0], ends[1]));
            }
        }
    }

    private static void limitBadFactor() {
        D.sentence("limit: BAD_FACTOR");
        for (int kind = 0; kind < Boxes.KINDS; kind++) {
            for (int f : NOT_FACTORS) {
                refused(kind, "limit(" + f + ", 0)", -2, x -> x.limit(f, 0));
            }
        }
    }

    private static void limitBadNumber() {
        D.sentence("limit: d not in -100 to 100: BAD_NUMBER");
        for (int kind = 0; kind < Boxes.KINDS; kind++) {
            for (int d : NOT_BOUNDS) {
                refused(kind, "limit(" + GOOD + ", " + d + ")", -3, x -> x.limit(GOOD, d));
            }
        }
    }

    private static void limitFull() {
        D.sentence("limit: there are six: FULL");
        for (int kind = 0; kind < Boxes.KINDS; kind++) {
            for (int d : new int[] {-100, -1, 0, 1, 100}) {
                String call = "limit(" + GOOD + ", " + d + ")";
                if (Boxes.limits(kind) == 6) {
                    refused(kind, call, -4, x -> x.limit(GOOD, d));
                } else {
                    D.due(call, Boxes.make(kind).limit(GOOD, d), Boxes.limits(kind));
                }
            }
        }
    }

    private static void limitOrder() {
        D.sentence("limit: BAD_FACTOR is tested before BAD_NUMBER, and both before FULL");
        int full = 2;
        for (int f : NOT_FACTORS) {
            refused(full, "limit(" + f + ", 0)", -2, x -> x.limit(f, 0));
            for (int d : NOT_BOUNDS) {
                refused(1, "limit(" + f + ", " + d + ")", -2, x -> x.limit(f, d));
                refused(full, "limit(" + f + ", " + d + ")", -2, x -> x.limit(f, d));
            }
        }
        for (int d : NOT_BOUNDS) {
            refused(full, "limit(" + GOOD + ", " + d + ")", -3, x -> x.limit(GOOD, d));
        }
    }

    private static int[] notLimits(int kind) {
        int limits = Boxes.limits(kind);
        return new int[] {-1, -32, limits, limits + 1, 6, 7, 31, 32, 64, LEAST, MOST};
    }

    private static void relaxBadLimit() {
        D.sentence("relax: There is no such limit: BAD_LIMIT");
        for (int kind = 0; kind < Boxes.KINDS; kind++) {
            for (int limit : notLimits(kind)) {
                refused(kind, "relax(" + limit + ", 5)", -5, x -> x.relax(limit, 5));
            }
        }
    }

    private static void relaxBadNumber() {
        D.sentence("relax: d not in -100 to 100: BAD_NUMBER");
        for (int kind = 0; kind < Boxes.KINDS; kind++) {
            for (int i = 0; i < Boxes.limits(kind); i++) {
                int limit = i;
                for (int d : NOT_BOUNDS) {
                    refused(kind, "relax(" + limit + ", " + d + ")", -3, x -> x.relax(limit, d));
                }
            }
        }
    }

    private static void relaxOrder() {
        D.sentence("relax: BAD_LIMIT is tested before BAD_NUMBER");
        for (int limit : notLimits(1)) {
            for (int d : NOT_BOUNDS) {
                refused(1, "relax(" + limit + ", " + d + ")", -5, x -> x.relax(limit, d));
            }
        }
    }

    private static void turnBadLimit() {
        D.sentence("turn: BAD_LIMIT");
        for (int kind = 0; kind < Boxes.KINDS; kind++) {
            for (int limit : notLimits(kind)) {
                refused(kind, "turn(" + limit + ", true)", -5, x -> x.turn(limit, true));
                refused(kind, "turn(" + limit + ", false)", -5, x -> x.turn(limit, false));
            }
        }
    }

    private static void dropOfNone() {
        D.sentence("drop: There is none: BAD_LIMIT");
        for (int kind = 0; kind < Boxes.KINDS; kind++) {
            if (Boxes.limits(kind) == 0) {
                refused(kind, "drop()", -5, x -> x.drop());
            }
        }
        IntegerBox x = Boxes.dropped();
        D.due("drop of the only one", x.drop(), 0);
        D.due("drop of none", x.drop(), -5);
        D.due("drop of none again", x.drop(), -5);
        IntegerBox y = new IntegerBox();
        y.drop();
        for (int i = 0; i < 6; i++) {
            D.due("limit after a drop of none", y.limit(GOOD, 0), i);
        }
        D.due("full after a drop of none", y.limit(GOOD, 0), -4);
    }
}
