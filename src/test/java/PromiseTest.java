/** Each promise by itself, with answers worked out by hand. */
public final class PromiseTest {
    private static final Due D = new Due();
    private static final int ALL = (1 << 17) - 1;
    private static final int[] NOT_A_VARIABLE = {-1, 3, 17, Integer.MIN_VALUE, Integer.MAX_VALUE};

    public static void main(String[] args) {
        newObject();
        range();
        limit();
        factors();
        relax();
        turn();
        drop();
        points();
        first();
        greatest();
        follows();
        numbers();
        idle();
        core();
        tight();
        objectsAreApart();
        D.end();
    }

    private static int f(int a, int b, int c) {
        return Due.f(a, b, c);
    }

    private static void newObject() {
        IntegerBox x = new IntegerBox();
        D.due("1: points", x.points(), 4913);
        for (int v = 0; v < 3; v++) {
            D.due("1: numbers " + v, x.numbers(v), ALL);
            D.due("1: first " + v, x.first(v), -8);
        }
        D.due("1: core", x.core(), -10000);
        D.due("1: no limit to relax", x.relax(0, 0), -5);
        D.due("1: no limit to turn", x.turn(0, true), -5);
        D.due("1: no limit to drop", x.drop(), -5);
        D.due("1: the first limit is 0", x.limit(f(0, 0, 0), 0), 0);
    }

    private static void range() {
        IntegerBox x = new IntegerBox();
        D.due("2: whole", x.range(0, -8, 8), 17);
        D.due("2: low end", x.range(0, -8, -8), 1);
        D.due("2: high end", x.range(1, 8, 8), 1);
        D.due("2: middle", x.range(2, -2, 3), 6);
        D.due("2: points", x.points(), 6);
        D.due("2: numbers 0", x.numbers(0), 1);
        D.due("2: numbers 1", x.numbers(1), 1 << 16);
        D.due("2: numbers 2", x.numbers(2), 63 << 6);
        D.due("2: wider again", x.range(0, -8, 8), 17);
        D.due("2: points after", x.points(), 102);
        for (int v : NOT_A_VARIABLE) {
            D.due("2: variable " + v, x.range(v, 0, 0), -1);
            D.due("2: variable first " + v, x.range(v, 9, -9), -1);
        }
        D.due("2: low below", x.range(0, -9, 0), -3);
        D.due("2: high above", x.range(0, 0, 9), -3);
        D.due("2: turned round", x.range(0, 1, 0), -3);
        D.due("2: low above", x.range(0, 9, 9), -3);
        D.due("2: high below", x.range(0, -9, -9), -3);
        D.due("2: extremes", x.range(0, Integer.MIN_VALUE, Integer.MAX_VALUE), -3);
        D.due("2: extremes round", x.range(0, Integer.MAX_VALUE, Integer.MIN_VALUE), -3);
        D.due("2: still", x.points(), 102);
    }

    private static void limit() {
        IntegerBox x = new IntegerBox();
        D.due("3: d 101", x.limit(f(0, 0, 0), 101), -3);
        D.due("3: d -101", x.limit(f(0, 0, 0), -101), -3);
        D.due("3: d least int", x.limit(f(0, 0, 0), Integer.MIN_VALUE), -3);
        D.due("3: d greatest int", x.limit(f(0, 0, 0), Integer.MAX_VALUE), -3);
        D.due("3: factor before number", x.limit(f(6, 0, 0), 101), -2);
        D.due("3: first", x.limit(f(1, 0, 0), 0), 0);
        D.due("3: it is on", x.points(), 9 * 289);
        D.due("3: d 100", x.limit(f(5, 5, 5), 100), 1);
        D.due("3: d -100", x.limit(f(-5, -5, -5), -100), 2);
        D.due("3: third", x.limit(f(0, 0, 0), 0), 3);
        D.due("3: fourth", x.limit(f(0, 0, 0), 0), 4);
        D.due("3: fifth", x.limit(f(0, 0, 0), 0), 5);
        D.due("3: full", x.limit(f(0, 0, 0), 0), -4);
        D.due("3: number before full", x.limit(f(0, 0, 0), 101), -3);
        D.due("3: factor before full", x.limit(f(0, 0, 6), 0), -2);
        D.due("3: factor before all", x.limit(f(0, 6, 0), -101), -2);
        D.due("3: dropped", x.drop(), 5);
        D.due("3: room again", x.limit(f(0, 0, 0), 0), 5);
        D.due("3: full again", x.limit(f(0, 0, 0), 0), -4);
        for (int i = 0; i < 6; i++) {
            D.due("3: on " + i, x.turn(i, true), 1);
        }
    }

    private static void factors() {
        for (int factor = -5; factor <= 10; factor++) {
            for (int v = 0; v < 3; v++) {
                int g = f(v == 0 ? factor : 0, v == 1 ? factor : 0, v == 2 ? factor : 0);
                IntegerBox x = new IntegerBox();
                x.range(v, -8, 7);
                int most = factor >= 0 ? 7 * factor : -8 * factor;
                String what = "terms: factor " + factor + " of " + v;
                D.due(what + " greatest", x.greatest(g), factor > 5 ? -2 : most);
                D.due(what + " follows", x.follows(g, most), factor <= 5);
                D.due(what + " follows all", x.follows(g, Integer.MAX_VALUE), factor <= 5);
                D.due(what + " limit", x.limit(g, 0), factor > 5 ? -2 : 0);
            }
        }
        for (int high : new int[] {0x1000, 0xF000, 0x7FFFF000, 0x80000000, 0xFFFFF000}) {
            IntegerBox x = new IntegerBox();
            D.due("terms: other bits, greatest", x.greatest(f(1, -2, 3) | high), 48);
            D.due("terms: other bits, follows", x.follows(f(1, -2, 3) | high, 48), true);
            D.due("terms: other bits, not below", x.follows(f(1, -2, 3) | high, 47), false);
            D.due("terms: other bits, limit", x.limit(f(1, 0, 0) | high, -8), 0);
            D.due("terms: other bits, points", x.points(), 289);
            D.due("terms: other bits, tight", x.tight(0), 289);
            D.due("terms: other bits, bad", x.limit(f(0, 0, 6) | high, 0), -2);
        }
        IntegerBox x = new IntegerBox();
        D.due("terms: all bits", x.greatest(-1), -2);
        D.due("terms: no bits", x.greatest(0), 120);
    }

    private static void relax() {
        IntegerBox x = new IntegerBox();
        x.limit(f(1, 0, 0), -3);
        x.limit(f(0, 1, 0), 8);
        D.due("4: old", x.relax(0, 2), -3);
        D.due("4: points", x.points(), 11 * 289);
        D.due("4: the other", x.relax(1, -8), 8);
        D.due("4: points of both", x.points(), 11 * 17);
        D.due("4: d 100", x.relax(0, 100), 2);
        D.due("4: d -100", x.relax(0, -100), 100);
        D.due("4: none", x.points(), 0);
        D.due("4: d 101", x.relax(0, 101), -3);
        D.due("4: d -101", x.relax(0, -101), -3);
        D.due("4: limit 2", x.relax(2, 0), -5);
        D.due("4: limit -1", x.relax(-1, 0), -5);
        D.due("4: limit first", x.relax(2, 101), -5);
        D.due("4: limit 6", x.relax(6, 0), -5);
        D.due("4: limit least int", x.relax(Integer.MIN_VALUE, 0), -5);
        D.due("4: limit greatest int", x.relax(Integer.MAX_VALUE, 0), -5);
        D.due("4: unchanged", x.relax(0, 8), -100);
        x.turn(0, false);
        D.due("4: of one that is off", x.relax(0, -8), 8);
        D.due("4: it stays off", x.points(), 289);
        D.due("4: turned on", x.turn(0, true), 0);
        D.due("4: now it counts", x.points(), 17);
    }

    private static void turn() {
        IntegerBox x = new IntegerBox();
        x.limit(f(1, 0, 0), -8);
        x.limit(f(0, 1, 0), -8);
        D.due("5: both", x.points(), 17);
        D.due("5: off", x.turn(0, false), 1);
        D.due("5: one", x.points(), 289);
        D.due("5: off again", x.turn(0, false), 0);
        D.due("5: still one", x.points(), 289);
        D.due("5: the other off", x.turn(1, false), 1);
        D.due("5: no limit on", x.points(), 4913);
        D.due("5: on", x.turn(0, true), 0);
        D.due("5: on again", x.turn(0, true), 1);
        D.due("5: one on", x.points(), 289);
        for (int limit : new int[] {-1, 2, 5, 6, 31, 32, 33, Integer.MIN_VALUE, Integer.MAX_VALUE}) {
            D.due("5: on limit " + limit, x.turn(limit, true), -5);
            D.due("5: off limit " + limit, x.turn(limit, false), -5);
        }
        D.due("5: as before", x.points(), 289);
    }

    private static void drop() {
        IntegerBox x = new IntegerBox();
        D.due("6: none", x.drop(), -5);
        x.limit(f(1, 0, 0), -8);
        x.limit(f(0, 1, 0), -8);
        x.limit(f(0, 0, 1), -8);
        D.due("6: three", x.points(), 1);
        D.due("6: two left", x.drop(), 2);
        D.due("6: the last went", x.numbers(2), ALL);
        D.due("6: the others stay", x.points(), 17);
        D.due("6: gone", x.turn(2, true), -5);
        x.turn(1, false);
        D.due("6: one that is off", x.drop(), 1);
        D.due("6: its number again", x.limit(f(0, 0, -1), -7), 1);
        D.due("6: and on", x.points(), 34);
        D.due("6: on, told", x.turn(1, true), 1);
        D.due("6: left one", x.drop(), 1);
        D.due("6: left none", x.drop(), 0);
        D.due("6: none left", x.drop(), -5);
        D.due("6: all points", x.points(), 4913);
    }

    private static void points() {
        IntegerBox x = new IntegerBox();
        x.range(0, 0, 2);
        x.range(1, 0, 2);
        x.range(2, 0, 2);
        D.due("7: box", x.points(), 27);
        x.limit(f(1, 1, 1), 2);
        D.due("7: corner", x.points(), 10);
        x.limit(f(-1, -1, -1), -2);
        D.due("7: plane", x.points(), 6);
        x.limit(f(2, -1, 0), 0);
        D.due("7: x0 at most half x1", x.points(), 3);
        x.relax(0, 1);
        D.due("7: none", x.points(), 0);
    }

    private static void first() {
        IntegerBox x = new IntegerBox();
        x.limit(f(-1, -1, -1), -20);
        D.due("8: x0", x.first(0), 4);
        D.due("8: x1", x.first(1), 8);
        D.due("8: x2", x.first(2), 8);
        x.range(1, -8, 7);
        D.due("8: x0 later", x.first(0), 5);
        D.due("8: x1 at its end", x.first(1), 7);
        D.due("8: x2 at its end", x.first(2), 8);
        x.relax(0, 0);
        x.range(0, 0, 3);
        D.due("8: x0 before x1", x.first(0), 0);
        D.due("8: x1 before x2", x.first(1), -8);
        D.due("8: x2 last", x.first(2), 8);
        for (int v : NOT_A_VARIABLE) {
            D.due("8: variable " + v, x.first(v), -1);
        }
        x.limit(f(0, 0, 0), -1);
        for (int v = 0; v < 3; v++) {
            D.due("8: none " + v, x.first(v), -10000);
        }
        for (int v : NOT_A_VARIABLE) {
            D.due("8: variable first " + v, x.first(v), -1);
        }
    }

    private static void greatest() {
        IntegerBox x = new IntegerBox();
        D.due("9: all up", x.greatest(f(5, 5, 5)), 120);
        D.due("9: all down", x.greatest(f(-5, -5, -5)), 120);
        D.due("9: nothing", x.greatest(f(0, 0, 0)), 0);
        x.limit(f(2, 2, 0), 7);
        D.due("9: whole numbers alone", x.greatest(f(1, 1, 0)), 3);
        D.due("9: with the third", x.greatest(f(1, 1, 2)), 19);
        x.range(0, -8, -8);
        x.range(1, -8, -8);
        x.range(2, -8, -7);
        D.due("9: below nought", x.greatest(f(5, 5, 5)), -115);
        D.due("9: a factor too high", x.greatest(f(0, 6, 0)), -2);
        x.limit(f(0, 0, 0), -1);
        D.due("9: none", x.greatest(f(1, 0, 0)), -10000);
        D.due("9: factor before none", x.greatest(f(0, 0, 10)), -2);
    }

    private static void follows() {
        IntegerBox x = new IntegerBox();
        x.limit(f(2, 2, 0), 7);
        D.due("10: at it", x.follows(f(1, 1, 0), 3), true);
        D.due("10: below it", x.follows(f(1, 1, 0), 2), false);
        D.due("10: above it", x.follows(f(1, 1, 0), 4), true);
        D.due("10: d above 100", x.follows(f(5, 5, 5), 120), true);
        D.due("10: d above 100, open", x.follows(f(-5, -5, -5), 119), false);
        D.due("10: greatest d", x.follows(f(1, 1, 1), Integer.MAX_VALUE), true);
        D.due("10: least d", x.follows(f(1, 1, 1), Integer.MIN_VALUE), false);
        D.due("10: a factor too high", x.follows(f(6, 0, 0), 100), false);
        x.turn(0, false);
        D.due("10: off", x.follows(f(1, 1, 0), 3), false);
        x.limit(f(0, 0, 0), -1);
        D.due("10: no points", x.follows(f(1, 1, 0), -100), true);
        D.due("10: no points, d below NONE", x.follows(f(1, 1, 0), -10001), true);
        D.due("10: no points, least d", x.follows(f(1, 1, 0), Integer.MIN_VALUE), true);
        D.due("10: no points, a factor too high", x.follows(f(0, 0, 6), 100), false);
    }

    private static void numbers() {
        IntegerBox x = new IntegerBox();
        x.range(0, -1, 1);
        x.range(1, 2, 2);
        x.range(2, 8, 8);
        D.due("11: x0", x.numbers(0), 7 << 7);
        D.due("11: x1", x.numbers(1), 1 << 10);
        D.due("11: x2", x.numbers(2), 1 << 16);
        x.range(2, -8, 8);
        x.limit(f(2, 0, 1), 0);
        x.limit(f(-2, 0, -1), 0);
        D.due("11: with gaps", x.numbers(2), (1 << 6) | (1 << 8) | (1 << 10));
        for (int v : NOT_A_VARIABLE) {
            D.due("11: variable " + v, x.numbers(v), -1);
        }
        x.limit(f(0, 0, 0), -1);
        D.due("11: no points", x.numbers(0), 0);
        D.due("11: no points, variable", x.numbers(3), -1);
    }

    private static void idle() {
        IntegerBox x = new IntegerBox();
        D.due("12: no limits", x.idle(0), false);
        x.limit(f(1, 0, 0), 8);
        D.due("12: cuts nothing", x.idle(0), true);
        x.relax(0, 7);
        D.due("12: cuts", x.idle(0), false);
        x.limit(f(1, 0, 0), 7);
        D.due("12: twins, one", x.idle(0), true);
        D.due("12: twins, other", x.idle(1), true);
        D.due("12: turned", x.turn(1, false), 1);
        D.due("12: one alone", x.idle(0), false);
        D.due("12: off", x.idle(1), false);
        x.relax(1, 8);
        D.due("12: off, cutting nothing", x.idle(1), false);
        for (int limit : new int[] {-1, 2, 6, 32, Integer.MIN_VALUE, Integer.MAX_VALUE}) {
            D.due("12: limit " + limit, x.idle(limit), false);
        }
        x.limit(f(0, 0, 0), -1);
        D.due("12: no points, nor without it", x.idle(0), true);
        D.due("12: no points by it", x.idle(2), false);
        x.drop();
        D.due("12: dropped", x.idle(2), false);
    }

    private static void core() {
        IntegerBox x = new IntegerBox();
        D.due("13: no limits", x.core(), -10000);
        x.limit(f(1, 1, 1), 0);
        D.due("13: a point", x.core(), -10000);
        x.limit(f(-1, 0, 0), -1);
        x.limit(f(0, -1, 0), -1);
        D.due("13: still a point", x.core(), -10000);
        x.limit(f(0, 0, -1), -1);
        D.due("13: all four", x.core(), 4);
        x.limit(f(1, 0, 0), 0);
        D.due("13: two", x.core(), 2);
        x.limit(f(0, 0, 0), -1);
        D.due("13: one", x.core(), 1);
        x.turn(5, false);
        D.due("13: two again", x.core(), 2);
        x.turn(4, false);
        D.due("13: four again", x.core(), 4);
        x.turn(0, false);
        D.due("13: a point again", x.core(), -10000);
        x.turn(0, true);
        x.range(0, -8, 0);
        D.due("13: by the range", x.core(), 1);
        x.turn(1, false);
        D.due("13: without that one", x.core(), -10000);
        coreOfSix();
    }

    private static void coreOfSix() {
        IntegerBox x = new IntegerBox();
        x.range(0, 0, 1);
        x.range(1, 0, 1);
        x.range(2, 0, 1);
        x.limit(f(-1, -1, 0), -1);
        x.limit(f(1, 1, 0), 1);
        x.limit(f(0, -1, -1), -1);
        x.limit(f(0, 1, 1), 1);
        x.limit(f(-1, 0, -1), -1);
        D.due("13: five leave points", x.core(), -10000);
        x.limit(f(1, 0, 1), 1);
        // The >= halves together ask for two ones among three, and each <= half forbids one pair,
        // so that with any one of the six off there is a point.
        D.due("13: all lower and all upper", x.core(), 6);
    }

    private static void tight() {
        IntegerBox x = new IntegerBox();
        D.due("14: no limits", x.tight(0), -5);
        x.limit(f(1, 0, 0), 3);
        D.due("14: on", x.tight(0), 289);
        x.turn(0, false);
        D.due("14: off", x.tight(0), 289);
        x.limit(f(1, 1, 0), -14);
        D.due("14: not at x0 = 3", x.tight(0), 0);
        D.due("14: a line of three", x.tight(1), 51);
        x.turn(1, false);
        D.due("14: a line of three, off", x.tight(1), 51);
        x.limit(f(-1, 0, 0), 7);
        D.due("14: cut by another", x.tight(1), 34);
        x.limit(f(2, 2, 2), 1);
        D.due("14: never with equality", x.tight(3), 0);
        for (int limit : new int[] {-1, 4, 6, Integer.MIN_VALUE, Integer.MAX_VALUE}) {
            D.due("14: limit " + limit, x.tight(limit), -5);
        }
        x.limit(f(0, 0, 0), -1);
        D.due("14: no points", x.tight(1), 0);
    }

    private static void objectsAreApart() {
        IntegerBox x = new IntegerBox();
        IntegerBox y = new IntegerBox();
        x.range(0, 0, 0);
        x.limit(f(0, 0, 0), -1);
        D.due("one object", x.points(), 0);
        D.due("another object", y.points(), 4913);
        D.due("another object's limits", y.drop(), -5);
    }
}
