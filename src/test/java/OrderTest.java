/**
 * What each call answers after ranges have been set anew and limits added, given another d,
 * switched off and on again and taken out, in every order, beside the second program Model.
 */
public final class OrderTest {
    private static final Due D = new Due();
    private static final int MOST_CALLS = 512;
    private static final int MOST_LIMITS = 6;
    private static final int[] FACTORS = {
        Due.f(1, 1, 0), Due.f(-1, 0, 1), Due.f(2, -3, 1), Due.f(0, -1, -1), Due.f(-5, 4, 5),
        Due.f(1, 1, 1), Due.f(0, 0, 0)};

    /** Each is a sort of change; a run of them is a number with one digit for each. */
    private static final int CHANGES = 10;
    private static final int LONGEST = 4;

    /** Set a range anew, add, give another d, switch off, switch on, take out. */
    private static final int SORTS = 6;

    public static void main(String[] args) {
        for (int limits : new int[] {0, 1, 5}) {
            everyRow(limits);
        }
        everyOrderInLongRuns();
        D.end();
    }

    // Every row of one to four changes, each on an object of its own, and then all questions.

    private static void everyRow(int limits) {
        D.sentence("every row of up to four changes, from " + limits + " limits on");
        int rows = 1;
        for (int length = 1; length <= LONGEST; length++) {
            rows *= CHANGES;
            for (int row = 0; row < rows; row++) {
                oneRow(limits, length, row);
            }
        }
    }

    private static void oneRow(int limits, int length, int row) {
        Beside x = new Beside(D, "row " + row + " of length " + length);
        // The ranges are small, so that the second program need not list many points.
        x.range(0, -2, 2);
        x.range(1, -1, 2);
        x.range(2, 0, 1);
        for (int i = 0; i < limits; i++) {
            x.limit(Due.f(1, 1, 1), 2 + i);
        }
        int last = limits == 0 ? 0 : limits - 1;
        int rest = row;
        for (int i = 0; i < length; i++) {
            change(x, rest % CHANGES, last);
            rest /= CHANGES;
        }
        askAll(x, last);
    }

    private static void change(Beside x, int change, int last) {
        switch (change) {
            case 0 -> x.range(0, 0, 2);
            case 1 -> x.range(0, -1, 0);
            case 2 -> x.limit(Due.f(1, 1, 0), 1);
            case 3 -> x.limit(Due.f(-1, 0, 1), -1);
            case 4 -> x.relax(last, -1);
            case 5 -> x.relax(last + 1, 0);
            case 6 -> x.turn(last, false);
            case 7 -> x.turn(last, true);
            case 8 -> x.turn(last + 1, false);
            default -> x.drop();
        }
    }

    private static void askAll(Beside x, int last) {
        x.points();
        x.first(0);
        x.first(1);
        x.first(2);
        x.greatest(Due.f(3, -2, 1));
        x.follows(Due.f(1, 1, 0), 1);
        x.numbers(0);
        x.numbers(1);
        x.core();
        for (int limit = last; limit <= last + 1; limit++) {
            x.idle(limit);
            x.tight(limit);
        }
    }

    // Every order of the six sorts of change, one after the other on the same object until its
    // calls are used up, with questions after each change: what they find must not be kept.

    private static void everyOrderInLongRuns() {
        D.sentence("every order of the six sorts of change, in long runs");
        int orders = 1;
        for (int i = 2; i <= SORTS; i++) {
            orders *= i;
        }
        Beside x = null;
        int runs = 0;
        for (int order = 0; order < orders; order++) {
            if (x == null || x.calls() + SORTS * 7 > MOST_CALLS) {
                x = longRun(runs);
                runs++;
            }
            oneOrder(x, order);
        }
    }

    private static Beside longRun(int run) {
        Beside x = new Beside(D, "long run " + run);
        for (int i = 0; i < run % (MOST_LIMITS + 1); i++) {
            x.limit(FACTORS[(run + i) % FACTORS.length], 3 + i);
        }
        return x;
    }

    private static void oneOrder(Beside x, int order) {
        int[] sorts = inOrder(order);
        for (int i = 0; i < SORTS; i++) {
            changeOfSort(x, sorts[i], order + i);
            for (int question = 0; question < 6; question++) {
                ask(x, order * 5 + i + question * 7, order + i + question);
            }
        }
    }

    /** The sorts in the order with this number, of 720. */
    private static int[] inOrder(int order) {
        int[] sorts = {0, 1, 2, 3, 4, 5};
        int rest = order;
        for (int i = SORTS; i > 1; i--) {
            int other = rest % i;
            int kept = sorts[i - 1];
            sorts[i - 1] = sorts[other];
            sorts[other] = kept;
            rest /= i;
        }
        return sorts;
    }

    private static void changeOfSort(Beside x, int sort, int n) {
        int limit = n % (x.limits() + 1);
        int d = n % 23 - 9;
        switch (sort) {
            case 0 -> x.range(n % 3, -(n % 7), n % 5);
            case 1 -> x.limit(FACTORS[n % FACTORS.length], d);
            case 2 -> x.relax(limit, d);
            case 3 -> x.turn(limit, false);
            case 4 -> x.turn(limit, true);
            default -> x.drop();
        }
    }

    private static void ask(Beside x, int question, int n) {
        int limit = n % (x.limits() + 1);
        switch (question % 8) {
            case 0 -> x.points();
            case 1 -> x.first(n % 3);
            case 2 -> x.greatest(FACTORS[n % FACTORS.length]);
            case 3 -> x.follows(FACTORS[n % FACTORS.length], n % 19 - 4);
            case 4 -> x.numbers(n % 3);
            case 5 -> x.idle(limit);
            case 6 -> x.core();
            default -> x.tight(limit);
        }
    }
}
