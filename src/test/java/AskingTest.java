import java.util.function.Supplier;
import java.util.function.ToIntFunction;

/** "The calls below change nothing": each of the eight, with right and wrong arguments. */
public final class AskingTest {
    private static final Due D = new Due();
    private static final int[] VARIABLES = {-1, 0, 1, 2, 3};
    private static final int[] LIMITS = {-1, 0, 1, 2, 3, 4, 5, 6, 32};
    private static final int[] FACTORS = {0, Due.f(1, -2, 3), 0xAAA, Due.f(0, 6, 0), -1};

    public static void main(String[] args) {
        D.sentence("points changes nothing");
        asked("points()", x -> x.points());
        D.sentence("first changes nothing");
        for (int v : VARIABLES) {
            asked("first(" + v + ")", x -> x.first(v));
        }
        D.sentence("greatest changes nothing");
        for (int f : FACTORS) {
            asked("greatest(" + f + ")", x -> x.greatest(f));
        }
        D.sentence("follows changes nothing");
        for (int f : FACTORS) {
            asked("follows(" + f + ", -1)", x -> x.follows(f, -1) ? 1 : 0);
            asked("follows(" + f + ", 120)", x -> x.follows(f, 120) ? 1 : 0);
        }
        D.sentence("numbers changes nothing");
        for (int v : VARIABLES) {
            asked("numbers(" + v + ")", x -> x.numbers(v));
        }
        D.sentence("idle changes nothing");
        for (int limit : LIMITS) {
            asked("idle(" + limit + ")", x -> x.idle(limit) ? 1 : 0);
        }
        D.sentence("core changes nothing");
        asked("core()", x -> x.core());
        D.sentence("tight changes nothing");
        for (int limit : LIMITS) {
            asked("tight(" + limit + ")", x -> x.tight(limit));
        }
        D.end();
    }

    private static void asked(String call, ToIntFunction<IntegerBox> made) {
        for (int kind = 0; kind < Boxes.KINDS; kind++) {
            int of = kind;
            int limits = Boxes.limits(kind);
            String what = call + " on kind " + kind;
            IntegerBox asked = Boxes.make(kind);
            int answer = made.applyAsInt(asked);
            D.due(what + " once more", made.applyAsInt(asked), answer);
            Supplier<IntegerBox> after = () -> {
                IntegerBox x = Boxes.make(of);
                made.applyAsInt(x);
                return x;
            };
            Supplier<IntegerBox> without = () -> Boxes.make(of);
            D.same(what, Whole.byNumbers(after, limits), Whole.byNumbers(without, limits));
            D.same(what, Whole.byPoints(after, limits), Whole.byPoints(without, limits));
            D.same(what, Whole.byAnswers(after, limits), Whole.byAnswers(without, limits));
        }
    }
}
