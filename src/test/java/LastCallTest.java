import java.util.function.ObjIntConsumer;
import java.util.function.ToIntFunction;

/**
 * "An object is used for at most 512 calls after it has been made": each call answers what is
 * due as the 512th, after 511 calls of several kinds.
 */
public final class LastCallTest {
    private static final Due D = new Due();
    private static final int LAST = 512;
    private static final int MADE_WITH = 7;
    private static final int ALL_ONE = Due.f(1, 1, 1);

    public static void main(String[] args) {
        afterAll("asking", LastCallTest::asking);
        afterAll("refused calls", LastCallTest::refused);
        afterAll("limits added and dropped", LastCallTest::addedAndDropped);
        afterAll("limits switched", LastCallTest::switched);
        afterAll("limits relaxed", LastCallTest::relaxed);
        afterAll("ranges set", LastCallTest::rangesSet);
        emptiedAgainAndAgain();
        D.end();
    }

    // The calls between: each makes as many calls as it is told and leaves the state as it was.

    private static void asking(IntegerBox x, int calls) {
        for (int i = 0; i < calls; i++) {
            switch (i % 8) {
                case 0 -> x.points();
                case 1 -> x.first(i % 3);
                case 2 -> x.greatest(ALL_ONE);
                case 3 -> x.follows(ALL_ONE, i);
                case 4 -> x.numbers(i % 3);
                case 5 -> x.idle(i % 7);
                case 6 -> x.core();
                default -> x.tight(i % 7);
            }
        }
    }

    private static void refused(IntegerBox x, int calls) {
        for (int i = 0; i < calls; i++) {
            switch (i % 6) {
                case 0 -> x.range(3, 0, 0);
                case 1 -> x.range(0, 1, 0);
                case 2 -> x.limit(-1, 0);
                case 3 -> x.limit(ALL_ONE, 101);
                case 4 -> x.relax(6, 0);
                default -> x.turn(-1, false);
            }
        }
    }

    private static void addedAndDropped(IntegerBox x, int calls) {
        for (int i = 0; i < calls / 2; i++) {
            x.limit(Due.f(0, 0, 0), -1);
            x.drop();
        }
        asking(x, calls % 2);
    }

    private static void switched(IntegerBox x, int calls) {
        for (int i = 0; i < calls / 2; i++) {
            x.turn(0, false);
            x.turn(0, true);
        }
        asking(x, calls % 2);
    }

    private static void relaxed(IntegerBox x, int calls) {
        for (int i = 0; i < calls / 2; i++) {
            x.relax(0, -100);
            x.relax(0, 2);
        }
        asking(x, calls % 2);
    }

    private static void rangesSet(IntegerBox x, int calls) {
        for (int i = 0; i < calls / 2; i++) {
            x.range(0, -8, 8);
            x.range(0, 0, 3);
        }
        asking(x, calls % 2);
    }

    private static void afterAll(String name, ObjIntConsumer<IntegerBox> between) {
        D.sentence("at most 512 calls, after " + name);
        answersAtLast(between);
        changesBeforeLast(between);
    }

    private static void last(String call, ObjIntConsumer<IntegerBox> between, int due,
            ToIntFunction<IntegerBox> made) {
        IntegerBox x = Boxes.some();
        between.accept(x, LAST - 1 - MADE_WITH);
        D.due(call + " as call 512", made.applyAsInt(x), due);
    }

    private static void answersAtLast(ObjIntConsumer<IntegerBox> between) {
        last("range", between, 3, x -> x.range(1, 0, 2));
        last("range refused", between, -3, x -> x.range(1, 0, 9));
        last("limit", between, 3, x -> x.limit(ALL_ONE, 0));
        last("limit refused", between, -2, x -> x.limit(-1, 0));
        last("relax", between, 1, x -> x.relax(2, 5));
        last("relax refused", between, -5, x -> x.relax(3, 5));
        last("turn", between, 0, x -> x.turn(1, true));
        last("turn of one on", between, 1, x -> x.turn(0, true));
        last("drop", between, 2, x -> x.drop());
        last("points", between, 10, x -> x.points());
        last("first 0", between, 0, x -> x.first(0));
        last("first 1", between, -1, x -> x.first(1));
        last("first 2", between, 1, x -> x.first(2));
        last("greatest", between, 5, x -> x.greatest(Due.f(2, 1, 0)));
        last("follows", between, 1, x -> x.follows(Due.f(2, 1, 0), 5) ? 1 : 0);
        last("follows not", between, 0, x -> x.follows(Due.f(2, 1, 0), 4) ? 1 : 0);
        last("numbers", between, 15 << 7, x -> x.numbers(1));
        last("idle", between, 0, x -> x.idle(2) ? 1 : 0);
        last("core", between, -10000, x -> x.core());
        last("tight", between, 4, x -> x.tight(0));
        last("tight of one off", between, 1, x -> x.tight(1));
    }

    private static void after(String call, ObjIntConsumer<IntegerBox> between, int due,
            ToIntFunction<IntegerBox> change, ToIntFunction<IntegerBox> asked) {
        IntegerBox x = Boxes.some();
        between.accept(x, LAST - 2 - MADE_WITH);
        change.applyAsInt(x);
        D.due(call + " as call 511, seen by call 512", asked.applyAsInt(x), due);
    }

    private static void changesBeforeLast(ObjIntConsumer<IntegerBox> between) {
        after("range", between, 20, x -> x.range(2, 0, 1), x -> x.points());
        after("limit", between, 1, x -> x.limit(Due.f(0, 0, 1), 0), x -> x.core());
        after("limit", between, 1, x -> x.limit(Due.f(0, 0, 1), 1), x -> x.idle(3) ? 1 : 0);
        after("relax", between, 14, x -> x.relax(2, 2), x -> x.points());
        after("turn", between, 1, x -> x.turn(1, true), x -> x.idle(1) ? 1 : 0);
        after("turn", between, -2, x -> x.turn(2, false), x -> x.first(1));
        after("drop", between, 14, x -> x.drop(), x -> x.points());
    }

    private static void emptiedAgainAndAgain() {
        D.sentence("at most 512 calls, all of them limit and drop");
        IntegerBox x = new IntegerBox();
        int calls = 0;
        while (calls + 14 <= LAST) {
            for (int i = 0; i < 6; i++) {
                D.due("limit, call " + calls, x.limit(ALL_ONE, i), i);
            }
            D.due("limit, one too many, call " + calls, x.limit(ALL_ONE, 0), -4);
            for (int left = 5; left >= 0; left--) {
                D.due("drop, call " + calls, x.drop(), left);
            }
            D.due("drop, one too many, call " + calls, x.drop(), -5);
            calls += 14;
        }
        asking(x, LAST - 1 - calls);
        D.due("points, call 512", x.points(), 4913);
    }
}
