/**
 * Whole-number points of a box that keep to linear limits.
 *
 * Every triple of numbers from -8 to 8 has a place, 0 to 4912. Places go up in the order of
 * points, so the first place that is a point is the first point. A set of limits is a mask:
 * bit i for limit i.
 */
public final class IntegerBox {
    public static final int BAD_VARIABLE = -1;
    public static final int BAD_FACTOR = -2;
    public static final int BAD_NUMBER = -3;
    public static final int FULL = -4;
    public static final int BAD_LIMIT = -5;
    public static final int NONE = -10000;

    private static final int VARIABLES = 3;
    private static final int LOWEST = -8;
    private static final int HIGHEST = 8;
    private static final int SPAN = HIGHEST - LOWEST + 1;
    private static final int PLACES = SPAN * SPAN * SPAN;

    private static final int MOST_LIMITS = 6;
    private static final int LIMIT_SETS = 1 << MOST_LIMITS;
    private static final int GREATEST_BOUND = 100;

    private static final int FACTOR_BITS = 4;
    private static final int FACTOR_MASK = 15;
    private static final int FACTOR_SHIFT = 5;
    private static final int GREATEST_FACTOR = 5;

    private final int[] lows = new int[VARIABLES];
    private final int[] highs = new int[VARIABLES];
    private final int[] factors = new int[MOST_LIMITS];
    private final int[] bounds = new int[MOST_LIMITS];
    private int limits;
    private int onSet;

    public IntegerBox() {
        for (int v = 0; v < VARIABLES; v++) {
            lows[v] = LOWEST;
            highs[v] = HIGHEST;
        }
        limits = 0;
        onSet = 0;
    }

    public int range(int v, int low, int high) {
        if (!isVariable(v)) {
            return BAD_VARIABLE;
        }
        if (low < LOWEST || low > high || high > HIGHEST) {
            return BAD_NUMBER;
        }
        lows[v] = low;
        highs[v] = high;
        return high - low + 1;
    }

    public int limit(int f, int d) {
        if (!areFactors(f)) {
            return BAD_FACTOR;
        }
        if (!isBound(d)) {
            return BAD_NUMBER;
        }
        if (limits >= MOST_LIMITS) {
            return FULL;
        }
        int added = limits;
        factors[added] = f;
        bounds[added] = d;
        onSet = onSet | (1 << added);
        limits = added + 1;
        return added;
    }

    public int relax(int limit, int d) {
        if (!isLimit(limit)) {
            return BAD_LIMIT;
        }
        if (!isBound(d)) {
            return BAD_NUMBER;
        }
        int old = bounds[limit];
        bounds[limit] = d;
        return old;
    }

    public int turn(int limit, boolean on) {
        if (!isLimit(limit)) {
            return BAD_LIMIT;
        }
        int was = (onSet >> limit) & 1;
        int others = onSet & ~(1 << limit);
        onSet = on ? others | (1 << limit) : others;
        return was;
    }

    public int drop() {
        if (limits <= 0) {
            return BAD_LIMIT;
        }
        limits = limits - 1;
        onSet = onSet & ~(1 << limits);
        return limits;
    }

    public int points() {
        return countKeeping(onSet);
    }

    public int first(int v) {
        if (!isVariable(v)) {
            return BAD_VARIABLE;
        }
        for (int place = 0; place < PLACES; place++) {
            if (isPoint(place)) {
                return numberAt(place, v);
            }
        }
        return NONE;
    }

    public int greatest(int f) {
        if (!areFactors(f)) {
            return BAD_FACTOR;
        }
        int greatest = NONE;
        for (int place = 0; place < PLACES; place++) {
            if (isPoint(place)) {
                int sum = sumAt(place, f);
                greatest = sum > greatest ? sum : greatest;
            }
        }
        return greatest;
    }

    public boolean follows(int f, int d) {
        if (!areFactors(f)) {
            return false;
        }
        // Not asked of greatest: with no points its NONE would lie above a d below -10000.
        for (int place = 0; place < PLACES; place++) {
            if (isPoint(place) && sumAt(place, f) > d) {
                return false;
            }
        }
        return true;
    }

    public int numbers(int v) {
        if (!isVariable(v)) {
            return BAD_VARIABLE;
        }
        int mask = 0;
        for (int place = 0; place < PLACES; place++) {
            if (isPoint(place)) {
                mask = mask | (1 << (numberAt(place, v) - LOWEST));
            }
        }
        return mask;
    }

    public boolean idle(int limit) {
        if (!isLimit(limit) || ((onSet >> limit) & 1) == 0) {
            return false;
        }
        return countKeeping(onSet & ~(1 << limit)) == countKeeping(onSet);
    }

    public int core() {
        long broken = brokenSets();
        if ((broken & 1L) != 0L) {
            return NONE;
        }
        int least = sizeOf(onSet);
        for (int set = 0; set < LIMIT_SETS; set++) {
            boolean allOn = (set & ~onSet) == 0;
            if (allOn && sizeOf(set) < least && meetsAll(set, broken)) {
                least = sizeOf(set);
            }
        }
        return least;
    }

    public int tight(int limit) {
        if (!isLimit(limit)) {
            return BAD_LIMIT;
        }
        int count = 0;
        for (int place = 0; place < PLACES; place++) {
            if (isPoint(place) && sumAt(place, factors[limit]) == bounds[limit]) {
                count++;
            }
        }
        return count;
    }

    private static boolean isVariable(int v) {
        return v >= 0 && v < VARIABLES;
    }

    private static boolean isBound(int d) {
        return d >= -GREATEST_BOUND && d <= GREATEST_BOUND;
    }

    private boolean isLimit(int limit) {
        return limit >= 0 && limit < limits;
    }

    private static boolean areFactors(int f) {
        for (int v = 0; v < VARIABLES; v++) {
            if (factorOf(f, v) > GREATEST_FACTOR) {
                return false;
            }
        }
        return true;
    }

    private static int factorOf(int f, int v) {
        return ((f >> (FACTOR_BITS * v)) & FACTOR_MASK) - FACTOR_SHIFT;
    }

    private static int numberAt(int place, int v) {
        int rest = place;
        for (int later = VARIABLES - 1; later > v; later--) {
            rest = rest / SPAN;
        }
        return rest % SPAN + LOWEST;
    }

    private static int sumAt(int place, int f) {
        int rest = place;
        int sum = 0;
        for (int v = VARIABLES - 1; v >= 0; v--) {
            sum = sum + factorOf(f, v) * (rest % SPAN + LOWEST);
            rest = rest / SPAN;
        }
        return sum;
    }

    private boolean isInRanges(int place) {
        int rest = place;
        for (int v = VARIABLES - 1; v >= 0; v--) {
            int number = rest % SPAN + LOWEST;
            if (number < lows[v] || number > highs[v]) {
                return false;
            }
            rest = rest / SPAN;
        }
        return true;
    }

    private int brokenAt(int place) {
        int broken = 0;
        for (int i = 0; i < limits && i < MOST_LIMITS; i++) {
            if (sumAt(place, factors[i]) > bounds[i]) {
                broken = broken | (1 << i);
            }
        }
        return broken;
    }

    private boolean isPoint(int place) {
        return isInRanges(place) && (brokenAt(place) & onSet) == 0;
    }

    private int countKeeping(int set) {
        int count = 0;
        for (int place = 0; place < PLACES; place++) {
            if (isInRanges(place) && (brokenAt(place) & set) == 0) {
                count++;
            }
        }
        return count;
    }

    /**
     * The sets of limits that some place in the ranges breaks, of those that are on: bit s for
     * the set s. Six limits have 64 sets, so that a long holds them all and core need not walk
     * the places again for each set that it tries.
     */
    private long brokenSets() {
        long sets = 0L;
        for (int place = 0; place < PLACES; place++) {
            if (isInRanges(place)) {
                sets = sets | (1L << (brokenAt(place) & onSet));
            }
        }
        return sets;
    }

    /** No place keeps to a set of limits just when each breaks one of them. */
    private static boolean meetsAll(int set, long broken) {
        for (int other = 0; other < LIMIT_SETS; other++) {
            boolean isBroken = ((broken >> other) & 1L) != 0L;
            if (isBroken && (set & other) == 0) {
                return false;
            }
        }
        return true;
    }

    private static int sizeOf(int set) {
        int size = 0;
        for (int i = 0; i < MOST_LIMITS; i++) {
            size = size + ((set >> i) & 1);
        }
        return size;
    }
}
