/**
 * The promises 1 to 14: a test for each sentence that names a boundary. What RefusalTest and
 * TermsTest ask for is not asked again, save where the sentence is about the answer alone.
 */
public final class EdgeTest {
    private static final Due D = new Due();
    private static final int ALL = (1 << 17) - 1;
    private static final int LEAST = Integer.MIN_VALUE;
    private static final int MOST = Integer.MAX_VALUE;
    private static final int[] NOT_VARIABLES = {-1, 3, 4, 31, 32, LEAST, MOST};

    public static void main(String[] args) {
        newRanges();
        newWithoutLimits();
        rangeAnswers();
        limitIsOn();
        limitNumbers();
        limitTakenAgain();
        relaxAnswers();
        relaxLeavesTheSwitch();
        turnAnswers();
        turnOnceMore();
        dropTakesTheLast();
        dropAnswers();
        droppedIsGone();
        pointsFromNoneToAll();
        firstBadVariable();
        firstNone();
        firstLikeAConstant();
        greatestBadFactor();
        greatestNone();
        greatestEnds();
        followsWithoutPoints();
        followsBadFactor();
        followsAtTheEdge();
        followsAnyBound();
        numbersBits();
        numbersBadVariable();
        idleOnAlone();
        idleNoMorePoints();
        idleNoSuchLimit();
        coreLeast();
        coreOfThoseOn();
        coreNone();
        tightOnOrOff();
        tightEquality();
        tightBadLimit();
        D.end();
    }

    private static int f(int a, int b, int c) {
        return Due.f(a, b, c);
    }

    private static void newRanges() {
        D.sentence("1: All ranges are -8 to 8");
        for (int v = 0; v < 3; v++) {
            IntegerBox x = new IntegerBox();
            D.due("numbers " + v, x.numbers(v), ALL);
            D.due("low " + v, x.first(v), -8);
            D.due("high " + v, x.greatest(Due.alone(v, 1)), 8);
        }
        D.due("points", new IntegerBox().points(), 4913);
    }

    private static void newWithoutLimits() {
        D.sentence("1: no limits");
        IntegerBox used = Boxes.full();
        IntegerBox x = new IntegerBox();
        for (int limit = 0; limit < 6; limit++) {
            D.due("relax " + limit, x.relax(limit, 0), -5);
            D.due("turn " + limit, x.turn(limit, true), -5);
            D.due("idle " + limit, x.idle(limit), false);
            D.due("tight " + limit, x.tight(limit), -5);
        }
        D.due("core", x.core(), -10000);
        D.due("drop", x.drop(), -5);
        D.due("the first number", x.limit(f(0, 0, 0), 0), 0);
        D.due("the object before it", used.drop(), 5);
    }

    private static void rangeAnswers() {
        D.sentence("2: Else answers how many numbers the range has");
        IntegerBox x = new IntegerBox();
        for (int v = 0; v < 3; v++) {
            D.due("one, low", x.range(v, -8, -8), 1);
            D.due("one, low, numbers", x.numbers(v), 1);
            D.due("one, high", x.range(v, 8, 8), 1);
            D.due("one, high, numbers", x.numbers(v), 1 << 16);
            D.due("one, nought", x.range(v, 0, 0), 1);
            D.due("all", x.range(v, -8, 8), 17);
            D.due("all but one", x.range(v, -7, 8), 16);
            D.due("the same again", x.range(v, -7, 8), 16);
        }
        D.due("points", x.points(), 4096);
    }

    private static void limitIsOn() {
        D.sentence("3: Adds a limit, on");
        for (int i = 0; i < 6; i++) {
            IntegerBox x = new IntegerBox();
            for (int before = 0; before < i; before++) {
                x.limit(f(0, 0, 0), 0);
                x.turn(before, false);
            }
            D.due("limit " + i, x.limit(f(1, 0, 0), -8), i);
            D.due("limit " + i + " counts", x.points(), 289);
            D.due("limit " + i + " is on", x.turn(i, false), 1);
        }
    }

    private static void limitNumbers() {
        D.sentence("3: there are six: FULL. Else answers its number");
        IntegerBox x = new IntegerBox();
        for (int i = 0; i < 6; i++) {
            D.due("limit " + i, x.limit(f(0, 0, 0), i), i);
        }
        for (int i = 0; i < 3; i++) {
            D.due("a seventh", x.limit(f(0, 0, 0), -1), -4);
        }
        D.due("the seventh does not count", x.points(), 4913);
        for (int i = 0; i < 6; i++) {
            x.turn(i, false);
        }
        D.due("off, and full yet", x.limit(f(0, 0, 0), -1), -4);
        for (int i = 0; i < 6; i++) {
            D.due("d of " + i, x.relax(i, 0), i);
        }
    }

    private static void limitTakenAgain() {
        D.sentence("3: there are six: FULL, and not after a drop");
        IntegerBox x = Boxes.full();
        for (int i = 0; i < 4; i++) {
            D.due("full", x.limit(f(0, 0, 0), 0), -4);
            D.due("drop", x.drop(), 5);
            D.due("room for one", x.limit(f(0, 0, 0), i), 5);
            D.due("its own d", x.relax(5, 0), i);
        }
    }

    private static void relaxAnswers() {
        D.sentence("4: Gives a limit another d. Else answers the old one");
        for (int i = 0; i < 6; i++) {
            IntegerBox x = Boxes.full();
            D.due("first d of " + i, x.relax(i, -100), 7 + i);
            D.due("least d of " + i, x.relax(i, 100), -100);
            D.due("greatest d of " + i, x.relax(i, 100), 100);
            D.due("the same d of " + i, x.relax(i, -1), 100);
            for (int other = 0; other < 6; other++) {
                D.due("d of " + other, x.relax(other, 0), other == i ? -1 : 7 + other);
            }
        }
        IntegerBox x = new IntegerBox();
        x.limit(f(1, 0, 0), 8);
        for (int d = -9; d <= 9; d++) {
            x.relax(0, d);
            D.due("points at " + d, x.points(), 289 * Math.max(0, Math.min(17, d + 9)));
        }
    }

    private static void relaxLeavesTheSwitch() {
        D.sentence("4: a limit that is off stays off, one that is on stays on");
        IntegerBox x = Boxes.full();
        for (int i = 0; i < 6; i++) {
            x.relax(i, 50);
            D.due("limit " + i + " was on", x.turn(i, true), i == 2 || i == 4 ? 0 : 1);
        }
    }

    private static void turnAnswers() {
        D.sentence("5: Switches a limit on or off. Else answers 1 if it was on, 0 if not");
        for (int i = 0; i < 6; i++) {
            IntegerBox x = new IntegerBox();
            for (int limit = 0; limit < 6; limit++) {
                x.limit(f(0, 0, 0), limit == i ? -1 : 0);
            }
            D.due("none by " + i, x.points(), 0);
            D.due("off " + i, x.turn(i, false), 1);
            D.due("all without " + i, x.points(), 4913);
            D.due("on " + i, x.turn(i, true), 0);
            D.due("none again by " + i, x.points(), 0);
            for (int other = 0; other < 6; other++) {
                D.due("limit " + other + " is on", x.turn(other, true), 1);
            }
        }
    }

    private static void turnOnceMore() {
        D.sentence("5: to what it is already");
        IntegerBox x = new IntegerBox();
        x.limit(f(1, 0, 0), 0);
        for (int i = 0; i < 3; i++) {
            D.due("on", x.turn(0, true), 1);
            D.due("points with it", x.points(), 289 * 9);
        }
        D.due("off", x.turn(0, false), 1);
        for (int i = 0; i < 3; i++) {
            D.due("off", x.turn(0, false), 0);
            D.due("points without it", x.points(), 4913);
        }
    }

    private static void dropTakesTheLast() {
        D.sentence("6: Takes the last limit out");
        IntegerBox x = new IntegerBox();
        x.limit(f(1, 0, 0), -8);
        x.limit(f(0, 1, 0), -8);
        x.limit(f(0, 0, 1), -8);
        int[] points = {17, 289, 4913};
        for (int i = 0; i < 3; i++) {
            x.drop();
            D.due("points", x.points(), points[i]);
            D.due("numbers of the last", x.numbers(2 - i), ALL);
        }
    }

    private static void dropAnswers() {
        D.sentence("6: There is none: BAD_LIMIT. Else answers how many are left");
        IntegerBox x = Boxes.full();
        for (int left = 5; left >= 0; left--) {
            D.due("drop", x.drop(), left);
        }
        D.due("drop of none", x.drop(), -5);
        D.due("drop of none again", x.drop(), -5);
        D.due("a limit", x.limit(f(0, 0, 0), 0), 0);
        D.due("drop of the only one", x.drop(), 0);
        D.due("drop of none once more", x.drop(), -5);
    }

    private static void droppedIsGone() {
        D.sentence("6: what was dropped is no limit, on or off");
        IntegerBox x = new IntegerBox();
        x.limit(f(0, 0, 0), 0);
        x.limit(f(0, 0, 0), -1);
        D.due("left", x.drop(), 1);
        D.due("relax", x.relax(1, 0), -5);
        D.due("turn", x.turn(1, true), -5);
        D.due("idle", x.idle(1), false);
        D.due("tight", x.tight(1), -5);
        D.due("core", x.core(), -10000);
        x.limit(f(0, 0, 0), 0);
        x.turn(1, false);
        D.due("one that is off", x.drop(), 1);
        D.due("its number", x.limit(f(1, 0, 0), -8), 1);
        D.due("and on", x.points(), 289);
        D.due("told as on", x.turn(1, true), 1);
    }

    private static void pointsFromNoneToAll() {
        D.sentence("7: How many points there are (0 to 4913)");
        IntegerBox x = new IntegerBox();
        D.due("all", x.points(), 4913);
        x.limit(f(1, 1, 1), 24);
        D.due("all keep to it", x.points(), 4913);
        x.relax(0, 23);
        D.due("all but one", x.points(), 4912);
        x.relax(0, -24);
        D.due("one", x.points(), 1);
        x.relax(0, -25);
        D.due("none", x.points(), 0);
        x.turn(0, false);
        D.due("all again", x.points(), 4913);
        for (int v = 0; v < 3; v++) {
            x.range(v, 8, 8);
        }
        D.due("one in the ranges", x.points(), 1);
    }

    private static void firstBadVariable() {
        D.sentence("8: BAD_VARIABLE; NONE");
        for (int kind = 0; kind < Boxes.KINDS; kind++) {
            for (int v : NOT_VARIABLES) {
                D.due("variable " + v + " on kind " + kind, Boxes.make(kind).first(v), -1);
            }
        }
    }

    private static void firstNone() {
        D.sentence("8: NONE, and the number if there is one point alone");
        IntegerBox x = new IntegerBox();
        x.limit(f(-1, -1, -1), -25);
        for (int v = 0; v < 3; v++) {
            D.due("none " + v, x.first(v), -10000);
        }
        x.relax(0, -24);
        for (int v = 0; v < 3; v++) {
            D.due("the last corner " + v, x.first(v), 8);
        }
        x.turn(0, false);
        x.range(0, 1, 1);
        x.range(1, -1, -1);
        x.range(2, 0, 0);
        D.due("the only x0", x.first(0), 1);
        D.due("the only x1", x.first(1), -1);
        D.due("the only x2", x.first(2), 0);
    }

    private static void firstLikeAConstant() {
        D.sentence("8: The number of a variable in the first point, each of -8 to 8");
        for (int v = 0; v < 3; v++) {
            for (int number = -8; number <= 8; number++) {
                IntegerBox x = new IntegerBox();
                x.limit(Due.alone(v, -1), -number);
                D.due("x" + v + " from " + number, x.first(v), number);
            }
        }
    }

    private static void greatestBadFactor() {
        D.sentence("9: BAD_FACTOR; NONE");
        for (int kind = 0; kind < Boxes.KINDS; kind++) {
            for (int factor = 6; factor <= 10; factor++) {
                for (int v = 0; v < 3; v++) {
                    int bad = Due.alone(v, factor);
                    D.due("greatest " + bad + " on kind " + kind, Boxes.make(kind).greatest(bad), -2);
                }
            }
        }
    }

    private static void greatestNone() {
        D.sentence("9: NONE");
        IntegerBox x = new IntegerBox();
        x.limit(f(0, 0, 0), -1);
        for (int same = -5; same <= 5; same++) {
            D.due("greatest of " + same, x.greatest(f(same, same, same)), -10000);
        }
        x.relax(0, 0);
        D.due("a point", x.greatest(f(0, 0, 0)), 0);
    }

    private static void greatestEnds() {
        D.sentence("9: The greatest value over all points, from -120 to 120");
        IntegerBox x = new IntegerBox();
        D.due("120 by 5", x.greatest(f(5, 5, 5)), 120);
        D.due("120 by -5", x.greatest(f(-5, -5, -5)), 120);
        x.limit(f(1, 1, 1), -24);
        D.due("-120", x.greatest(f(5, 5, 5)), -120);
        x.relax(0, 24);
        for (int v = 0; v < 3; v++) {
            x.range(v, 8, 8);
        }
        D.due("-120 by -5", x.greatest(f(-5, -5, -5)), -120);
        D.due("below nought, by each", x.greatest(f(-1, -2, -3)), -48);
    }

    private static void followsWithoutPoints() {
        D.sentence("10: holds for every point (also if there are none)");
        IntegerBox x = Boxes.withoutPoints();
        for (int d : new int[] {LEAST, -10001, -10000, -9999, -121, -100, 0, 100, MOST}) {
            D.due("follows by " + d, x.follows(f(1, 1, 1), d), true);
            D.due("follows by " + d + ", least", x.follows(f(-5, -5, -5), d), true);
        }
    }

    private static void followsBadFactor() {
        D.sentence("10: false if a factor is above 5");
        for (int kind = 0; kind < Boxes.KINDS; kind++) {
            for (int factor = 6; factor <= 10; factor++) {
                for (int v = 0; v < 3; v++) {
                    int bad = Due.alone(v, factor);
                    String what = "follows " + bad + " on kind " + kind;
                    D.due(what, Boxes.make(kind).follows(bad, 100), false);
                    D.due(what + ", great d", Boxes.make(kind).follows(bad, MOST), false);
                }
            }
        }
    }

    private static void followsAtTheEdge() {
        D.sentence("10: Whether a * x0 + b * x1 + c * x2 <= d holds for every point");
        for (int same = -5; same <= 5; same++) {
            IntegerBox x = new IntegerBox();
            int most = 24 * Math.abs(same);
            D.due("at " + most, x.follows(f(same, same, same), most), true);
            D.due("below " + most, x.follows(f(same, same, same), most - 1), false);
        }
        IntegerBox x = new IntegerBox();
        x.limit(f(1, 1, 1), -24);
        D.due("one point", x.follows(f(5, 5, 5), -120), true);
        D.due("one point, below", x.follows(f(5, 5, 5), -121), false);
        x.turn(0, false);
        D.due("a limit that is off does not count", x.follows(f(1, 1, 1), -24), false);
    }

    private static void followsAnyBound() {
        D.sentence("10: with d outside of -100 to 100");
        IntegerBox x = new IntegerBox();
        D.due("d 101", x.follows(f(5, 5, 5), 101), false);
        D.due("d 119", x.follows(f(5, 5, 5), 119), false);
        D.due("d 120", x.follows(f(5, 5, 5), 120), true);
        D.due("greatest d", x.follows(f(5, 5, 5), MOST), true);
        D.due("d -101", x.follows(f(0, 0, 0), -101), false);
        D.due("least d", x.follows(f(0, 0, 0), LEAST), false);
        x.limit(f(1, 1, 1), -24);
        D.due("d -101 holds", x.follows(f(5, 5, 5), -101), true);
    }

    private static void numbersBits() {
        D.sentence("11: as a mask: bit x + 8 for the number x");
        for (int v = 0; v < 3; v++) {
            for (int number = -8; number <= 8; number++) {
                IntegerBox x = new IntegerBox();
                x.range(v, number, number);
                D.due("x" + v + " at " + number, x.numbers(v), 1 << (number + 8));
                D.due("the next at " + number, x.numbers((v + 1) % 3), ALL);
            }
        }
        IntegerBox x = new IntegerBox();
        x.limit(f(0, 0, 0), -1);
        for (int v = 0; v < 3; v++) {
            D.due("no point, x" + v, x.numbers(v), 0);
        }
    }

    private static void numbersBadVariable() {
        D.sentence("11: BAD_VARIABLE");
        for (int kind = 0; kind < Boxes.KINDS; kind++) {
            for (int v : NOT_VARIABLES) {
                D.due("variable " + v + " on kind " + kind, Boxes.make(kind).numbers(v), -1);
            }
        }
    }

    private static void idleOnAlone() {
        D.sentence("12: Whether the limit is on");
        for (int i = 0; i < 6; i++) {
            IntegerBox x = new IntegerBox();
            for (int limit = 0; limit < 6; limit++) {
                x.limit(f(0, 0, 0), 0);
            }
            D.due("on " + i, x.idle(i), true);
            x.turn(i, false);
            for (int other = 0; other < 6; other++) {
                D.due("limit " + other + " with " + i + " off", x.idle(other), other != i);
            }
        }
    }

    private static void idleNoMorePoints() {
        D.sentence("12: and there would be no more points if it were off");
        IntegerBox x = new IntegerBox();
        x.limit(f(1, 1, 1), 24);
        D.due("it takes none", x.idle(0), true);
        x.relax(0, 23);
        D.due("it takes one", x.idle(0), false);
        x.limit(f(1, 1, 1), 22);
        D.due("another takes them too", x.idle(0), true);
        D.due("the other takes more", x.idle(1), false);
        x.limit(f(0, 0, 0), -1);
        D.due("no points with or without 0", x.idle(0), true);
        D.due("no points by 2 alone", x.idle(2), false);
        x.limit(f(0, 0, 0), -1);
        D.due("no points by 2 and by 3", x.idle(2), true);
        D.due("no points by 3 and by 2", x.idle(3), true);
    }

    private static void idleNoSuchLimit() {
        D.sentence("12: false if there is no such limit");
        for (int kind = 0; kind < Boxes.KINDS; kind++) {
            int limits = Boxes.limits(kind);
            for (int limit : new int[] {LEAST, -32, -1, limits, 6, 7, 31, 32, 33, 64, MOST}) {
                D.due("limit " + limit + " on kind " + kind, Boxes.make(kind).idle(limit), false);
            }
        }
    }

    private static void coreLeast() {
        D.sentence("13: The least number of limits that could be left on");
        // Each number is 1 or more, while first the sum of three is below 3, then also the sum
        // of two below 2, then also one below 1, and last one below its range.
        IntegerBox x = new IntegerBox();
        x.limit(f(1, 1, 1), 2);
        x.limit(f(-1, 0, 0), -1);
        x.limit(f(0, -1, 0), -1);
        x.limit(f(0, 0, -1), -1);
        D.due("four", x.core(), 4);
        x.limit(f(0, 1, 1), 1);
        D.due("three", x.core(), 3);
        x.limit(f(0, 0, 1), 0);
        D.due("two", x.core(), 2);
        x.relax(5, -9);
        D.due("one", x.core(), 1);
        IntegerBox six = sixOfWhichAllAreAsked();
        D.due("six", six.core(), 6);
        six.range(0, 0, 0);
        D.due("the ranges count", six.core(), 3);
    }

    /** Numbers 0 or 1, and each two of them neither both 0 nor both 1. */
    private static IntegerBox sixOfWhichAllAreAsked() {
        IntegerBox x = new IntegerBox();
        for (int v = 0; v < 3; v++) {
            x.range(v, 0, 1);
        }
        x.limit(f(1, 1, 0), 1);
        x.limit(f(-1, -1, 0), -1);
        x.limit(f(1, 0, 1), 1);
        x.limit(f(-1, 0, -1), -1);
        x.limit(f(0, 1, 1), 1);
        x.limit(f(0, -1, -1), -1);
        return x;
    }

    private static void coreOfThoseOn() {
        D.sentence("13: of those that are on");
        IntegerBox x = new IntegerBox();
        x.limit(f(1, 0, 0), -1);
        x.limit(f(-1, 0, 0), 0);
        x.limit(f(0, 0, 0), -1);
        D.due("one", x.core(), 1);
        x.turn(2, false);
        D.due("one that is off is not left on", x.core(), 2);
        x.turn(1, false);
        D.due("a point without both", x.core(), -10000);
        x.turn(2, true);
        D.due("one again", x.core(), 1);
        for (int i = 0; i < 6; i++) {
            IntegerBox six = sixOfWhichAllAreAsked();
            six.turn(i, false);
            D.due("a point without " + i, six.core(), -10000);
        }
    }

    private static void coreNone() {
        D.sentence("13: NONE if there is a point");
        IntegerBox x = new IntegerBox();
        D.due("no limits", x.core(), -10000);
        x.limit(f(1, 1, 1), -24);
        D.due("one point", x.core(), -10000);
        x.relax(0, -25);
        D.due("no point", x.core(), 1);
        x.turn(0, false);
        D.due("its limit off", x.core(), -10000);
        x.turn(0, true);
        x.drop();
        D.due("its limit dropped", x.core(), -10000);
    }

    private static void tightOnOrOff() {
        D.sentence("14: whether it is on or off");
        for (int i = 0; i < 6; i++) {
            IntegerBox x = new IntegerBox();
            for (int limit = 0; limit < 6; limit++) {
                x.limit(f(1, 0, 0), limit == i ? -3 : 8);
            }
            D.due("on " + i, x.tight(i), 289);
            x.turn(i, false);
            D.due("off " + i, x.tight(i), 289);
            D.due("off " + i + ", the others", x.tight((i + 1) % 6), 289);
        }
    }

    private static void tightEquality() {
        D.sentence("14: How many points hold the limit with equality");
        IntegerBox x = new IntegerBox();
        x.limit(f(0, 0, 0), 0);
        D.due("all", x.tight(0), 4913);
        x.limit(f(1, 1, 1), 24);
        D.due("one", x.tight(1), 1);
        x.relax(1, 25);
        D.due("none", x.tight(1), 0);
        x.limit(f(1, 1, 1), -24);
        D.due("points alone", x.tight(0), 1);
        x.relax(1, 24);
        D.due("not those that another takes", x.tight(1), 0);
        x.relax(2, -25);
        D.due("no points", x.tight(0), 0);
        D.due("no points, its own", x.tight(2), 0);
        x.turn(2, false);
        D.due("off, with no number so small", x.tight(2), 0);
    }

    private static void tightBadLimit() {
        D.sentence("14: BAD_LIMIT");
        for (int kind = 0; kind < Boxes.KINDS; kind++) {
            int limits = Boxes.limits(kind);
            for (int limit : new int[] {LEAST, -32, -1, limits, 6, 7, 31, 32, 33, 64, MOST}) {
                D.due("limit " + limit + " on kind " + kind, Boxes.make(kind).tight(limit), -5);
            }
        }
    }
}
