import java.util.function.Supplier;

/**
 * All that an object can tell of its ranges and limits, as text: objects with the same text hold
 * the same state. Reading uses an object up, so each part is read from one made anew.
 *
 * A part is read with calls that aren't refused and with one asking call alone. Else a fault in
 * the call under test would touch the object that it is compared with, too, and not be seen.
 */
final class Whole {
    private final Supplier<IntegerBox> made;
    private final int limits;
    private final StringBuilder text = new StringBuilder();

    private Whole(Supplier<IntegerBox> made, int limits) {
        this.made = made;
        this.limits = limits;
    }

    /** The state, with numbers as the only call that asks. */
    static String byNumbers(Supplier<IntegerBox> made, int limits) {
        Whole whole = new Whole(made, limits);
        whole.withoutAsking();
        IntegerBox x = whole.withoutLimits();
        for (int v = 0; v < 3; v++) {
            whole.tell("range", x.numbers(v));
        }
        for (int limit = 0; limit < limits; limit++) {
            whole.factorsByNumbers(limit);
        }
        return whole.text.toString();
    }

    /** The state, with points as the only call that asks. */
    static String byPoints(Supplier<IntegerBox> made, int limits) {
        Whole whole = new Whole(made, limits);
        whole.withoutAsking();
        for (int v = 0; v < 3; v++) {
            whole.rangeByPoints(v);
        }
        for (int limit = 0; limit < limits; limit++) {
            whole.factorsByPoints(limit);
        }
        return whole.text.toString();
    }

    /** What each call that asks answers, for what an object may keep beside its state. */
    static String byAnswers(Supplier<IntegerBox> made, int limits) {
        Whole whole = new Whole(made, limits);
        IntegerBox x = made.get();
        whole.tell("points", x.points());
        whole.tell("core", x.core());
        for (int v = 0; v < 3; v++) {
            whole.tell("first", x.first(v));
            whole.tell("numbers", x.numbers(v));
        }
        for (int limit = 0; limit < limits; limit++) {
            whole.tell("idle", x.idle(limit) ? 1 : 0);
            whole.tell("tight", x.tight(limit));
        }
        whole.tell("greatest", x.greatest(Due.f(3, -2, 1)));
        whole.tell("follows", x.follows(Due.f(1, 1, 1), 0) ? 1 : 0);
        return whole.text.toString();
    }

    private void tell(String name, long answer) {
        text.append(name).append(' ').append(answer).append("; ");
    }

    private void withoutAsking() {
        IntegerBox x = made.get();
        for (int i = 0; i < 7; i++) {
            tell("drop", x.drop());
        }
        IntegerBox y = made.get();
        IntegerBox z = made.get();
        for (int limit = 0; limit < limits; limit++) {
            tell("was on", y.turn(limit, false));
            tell("d", z.relax(limit, 0));
        }
    }

    private IntegerBox withoutLimits() {
        IntegerBox x = made.get();
        for (int i = 0; i < limits; i++) {
            x.drop();
        }
        return x;
    }

    private IntegerBox withOneOn(int limit) {
        IntegerBox x = made.get();
        for (int other = 0; other < limits; other++) {
            x.turn(other, other == limit);
        }
        return x;
    }

    private static void otherRangesAtNought(IntegerBox x, int v, int low, int high) {
        for (int other = 0; other < 3; other++) {
            x.range(other, other == v ? low : 0, other == v ? high : 0);
        }
    }

    /** Two values of d, with the other variables at nought, tell the factors -5 to 5 apart. */
    private void factorsByNumbers(int limit) {
        IntegerBox x = withOneOn(limit);
        for (int v = 0; v < 3; v++) {
            otherRangesAtNought(x, v, -8, 8);
            x.relax(limit, -1);
            tell("at -1", x.numbers(v));
            x.relax(limit, -10);
            tell("at -10", x.numbers(v));
        }
    }

    private void rangeByPoints(int v) {
        IntegerBox x = withoutLimits();
        for (int d = -8; d <= 8; d++) {
            x.limit(Due.alone(v, 1), d);
            tell("up to " + d, x.points());
            x.drop();
        }
    }

    /** At one point, with a 1 in it and else noughts, a limit holds from d at the factor on. */
    private void factorsByPoints(int limit) {
        IntegerBox x = withOneOn(limit);
        for (int v = 0; v < 3; v++) {
            otherRangesAtNought(x, v, 1, 1);
            int held = 0;
            for (int d = -5; d <= 5; d++) {
                x.relax(limit, d);
                held += x.points();
            }
            tell("held", held);
        }
    }
}
