/** The heading "Terms": a test for each sentence that names a boundary. */
public final class TermsTest {
    private static final Due D = new Due();
    private static final int ALL = (1 << 17) - 1;

    public static void main(String[] args) {
        threeVariables();
        ranges();
        upToSixLimits();
        factors();
        bounds();
        onOrOff();
        order();
        otherBits();
        factorAboveFive();
        none();
        D.end();
    }

    private static void threeVariables() {
        D.sentence("There are three VARIABLES (0 to 2)");
        for (int v = 0; v < 3; v++) {
            IntegerBox x = new IntegerBox();
            D.due("range of " + v, x.range(v, v + 1, 8), 8 - v);
            for (int other = 0; other < 3; other++) {
                D.due("first of " + other, x.first(other), other == v ? v + 1 : -8);
                int mask = other == v ? ALL & (ALL << (v + 9)) : ALL;
                D.due("numbers of " + other, x.numbers(other), mask);
            }
            D.due("points", x.points(), 289 * (8 - v));
        }
        IntegerBox x = new IntegerBox();
        for (int v : new int[] {-1, 3}) {
            D.due("range of " + v, x.range(v, 0, 0), -1);
            D.due("first of " + v, x.first(v), -1);
            D.due("numbers of " + v, x.numbers(v), -1);
        }
    }

    private static void ranges() {
        D.sentence("a RANGE from its LOW to its HIGH end, within -8 to 8");
        for (int low = -8; low <= 8; low++) {
            for (int high = low; high <= 8; high++) {
                IntegerBox x = new IntegerBox();
                String what = "range " + low + " to " + high;
                D.due(what, x.range(1, low, high), high - low + 1);
                D.due(what + ", points", x.points(), 289 * (high - low + 1));
                D.due(what + ", first", x.first(1), low);
                D.due(what + ", last", x.greatest(Due.f(0, 1, 0)), high);
            }
        }
    }

    private static void upToSixLimits() {
        D.sentence("up to six LIMITS, numbered from 0");
        IntegerBox x = new IntegerBox();
        for (int i = 0; i < 6; i++) {
            D.due("limit " + i + " before it is added", x.tight(i), -5);
            // Each limit takes the greatest number of x0 that is left.
            D.due("limit " + i, x.limit(Due.f(1, 0, 0), 7 - i), i);
            D.due("limit " + i + " holds", x.points(), 289 * (16 - i));
            D.due("limit " + i + " under its number", x.tight(i), 289);
        }
        D.due("a seventh", x.limit(Due.f(1, 0, 0), 1), -4);
        D.due("no limit 6", x.tight(6), -5);
    }

    private static void factors() {
        D.sentence("a * x0 + b * x1 + c * x2 <= d, with factors from -5 to 5");
        for (int v = 0; v < 3; v++) {
            for (int factor = -5; factor <= 5; factor++) {
                for (int d : new int[] {-41, -40, -39, -1, 0, 1, 39, 40}) {
                    oneFactor(v, factor, d);
                }
            }
        }
        IntegerBox x = new IntegerBox();
        D.due("all at -5", x.limit(Due.f(-5, -5, -5), -100), 0);
        D.due("all at 5", x.limit(Due.f(5, 5, 5), 100), 1);
        D.due("greatest at 5", x.greatest(Due.f(5, 5, 5)), 100);
        D.due("points with a sum of 20", x.points(), 15);
    }

    private static void oneFactor(int v, int factor, int d) {
        IntegerBox x = new IntegerBox();
        int keep = 0;
        int equal = 0;
        for (int number = -8; number <= 8; number++) {
            keep += factor * number <= d ? 1 : 0;
            equal += factor * number == d ? 1 : 0;
        }
        String what = factor + " * x" + v + " <= " + d;
        D.due(what, x.limit(Due.alone(v, factor), d), 0);
        D.due(what + ", points", x.points(), 289 * keep);
        D.due(what + ", tight", x.tight(0), 289 * equal);
    }

    private static void bounds() {
        D.sentence("d from -100 to 100");
        IntegerBox y = new IntegerBox();
        y.limit(Due.f(0, 0, 0), 0);
        int old = 0;
        for (int d = -103; d <= 103; d++) {
            boolean good = d >= -100 && d <= 100;
            IntegerBox x = new IntegerBox();
            D.due("limit with d " + d, x.limit(Due.f(5, 5, 5), d), good ? 0 : -3);
            D.due("it is kept, " + d, x.relax(0, 0), good ? d : -5);
            D.due("relax to " + d, y.relax(0, d), good ? old : -3);
            old = good ? d : old;
        }
    }

    private static void onOrOff() {
        D.sentence("such that all limits that are on hold");
        // Of the numbers of a variable 12 keep to each of its two limits, and 7 to both.
        int[] kept = {17, 12, 12, 7};
        for (int on = 0; on < 64; on++) {
            IntegerBox x = new IntegerBox();
            for (int v = 0; v < 3; v++) {
                x.limit(Due.alone(v, 1), 3);
                x.limit(Due.alone(v, -1), 3);
            }
            for (int i = 0; i < 6; i++) {
                x.turn(i, (on & (1 << i)) != 0);
            }
            int due = kept[on & 3] * kept[(on >> 2) & 3] * kept[on >> 4];
            D.due("points with the limits " + on + " on", x.points(), due);
        }
    }

    private static void order() {
        D.sentence("POINTS ARE ORDERED by x0, then x1, then x2, smaller numbers first");
        // Points where a smaller number of one variable asks for a greater one of another.
        firstIs(Due.f(-1, -1, -1), -24, 8, 8, 8);
        firstIs(Due.f(-1, -1, -1), -23, 7, 8, 8);
        firstIs(Due.f(-1, -1, 0), 0, -8, 8, -8);
        firstIs(Due.f(-1, 0, -1), 0, -8, -8, 8);
        firstIs(Due.f(0, -1, -1), 0, -8, -8, 8);
        firstIs(Due.f(-1, -1, -1), 0, -8, 0, 8);
        firstIs(Due.f(1, 1, 1), -24, -8, -8, -8);
        firstIs(Due.f(0, 0, 0), 0, -8, -8, -8);
    }

    private static void firstIs(int f, int d, int x0, int x1, int x2) {
        IntegerBox x = new IntegerBox();
        x.limit(f, d);
        D.due(f + " <= " + d + ", x0", x.first(0), x0);
        D.due(f + " <= " + d + ", x1", x.first(1), x1);
        D.due(f + " <= " + d + ", x2", x.first(2), x2);
    }

    private static void otherBits() {
        D.sentence("other bits are not looked at");
        for (int bit = 12; bit < 32; bit++) {
            withOtherBits(1 << bit);
            withOtherBits(-1 << bit);
        }
    }

    private static void withOtherBits(int bits) {
        IntegerBox x = new IntegerBox();
        int f = Due.f(1, -2, 3) | bits;
        D.due("greatest " + f, x.greatest(f), 48);
        D.due("follows " + f + ", 48", x.follows(f, 48), true);
        D.due("follows " + f + ", 47", x.follows(f, 47), false);
        D.due("limit " + f, x.limit(f, -47), 0);
        D.due("points of " + f, x.points(), 2);
        D.due("tight of " + f, x.tight(0), 1);
        int bad = Due.f(1, -2, 6) | bits;
        D.due("greatest " + bad, x.greatest(bad), -2);
        D.due("follows " + bad, x.follows(bad, 100), false);
        D.due("limit " + bad, x.limit(bad, 0), -2);
    }

    private static void factorAboveFive() {
        D.sentence("a factor above 5 is BAD_FACTOR");
        for (int v = 0; v < 3; v++) {
            for (int factor = 6; factor <= 10; factor++) {
                refusedFactors(Due.alone(v, factor));
                // The least and the greatest of the other factors do not hide it.
                refusedFactors((factor + 5) << (4 * v));
                refusedFactors((0xAAA & ~(15 << (4 * v))) | ((factor + 5) << (4 * v)));
            }
            IntegerBox x = new IntegerBox();
            D.due("5 is not above 5, limit", x.limit(Due.alone(v, 5), 100), 0);
            D.due("5 is not above 5, greatest", x.greatest(Due.alone(v, 5)), 40);
            D.due("5 is not above 5, follows", x.follows(Due.alone(v, 5), 40), true);
        }
        refusedFactors(0xFFF);
        refusedFactors(-1);
        refusedFactors(Integer.MAX_VALUE);
    }

    private static void refusedFactors(int f) {
        IntegerBox x = new IntegerBox();
        D.due("limit " + f, x.limit(f, 100), -2);
        D.due("greatest " + f, x.greatest(f), -2);
        D.due("follows " + f, x.follows(f, 100), false);
        D.due("no limit " + f, x.drop(), -5);
    }

    private static void none() {
        D.sentence("NONE = -10000: Answered where there is no point");
        IntegerBox x = Boxes.withoutPoints();
        D.due("NONE", IntegerBox.NONE, -10000);
        for (int v = 0; v < 3; v++) {
            D.due("first " + v, x.first(v), -10000);
            D.due("greatest " + v, x.greatest(Due.alone(v, 1)), -10000);
        }
        x.turn(0, false);
        for (int v = 0; v < 3; v++) {
            D.due("a point, first " + v, x.first(v), -8);
            D.due("a point, greatest " + v, x.greatest(Due.alone(v, -1)), 8);
        }
    }
}
