/** Objects to begin with, each made by the same calls each time. */
final class Boxes {
    static final int KINDS = 6;

    static IntegerBox make(int kind) {
        return switch (kind) {
            case 0 -> new IntegerBox();
            case 1 -> some();
            case 2 -> full();
            case 3 -> withoutPoints();
            case 4 -> dropped();
            default -> rangesAlone();
        };
    }

    /** How many limits the object of a kind has. */
    static int limits(int kind) {
        return switch (kind) {
            case 0 -> 0;
            case 1 -> 3;
            case 2 -> 6;
            case 3 -> 2;
            case 4 -> 1;
            default -> 0;
        };
    }

    /**
     * Ten points: x0 is 0 to 3, x1 is -1 to 2, x0 + x1 is at most 2, and x2 is 1. Made with
     * seven calls.
     */
    static IntegerBox some() {
        IntegerBox x = new IntegerBox();
        x.range(0, 0, 3);
        x.range(1, -2, 2);
        x.range(2, 1, 1);
        x.limit(Due.f(1, 1, 0), 2);
        x.limit(Due.f(1, 0, 0), 3);
        x.limit(Due.f(0, -1, 0), 1);
        x.turn(1, false);
        return x;
    }

    /** Six limits, of which 2 and 4 are off. */
    static IntegerBox full() {
        IntegerBox x = new IntegerBox();
        x.range(0, -3, 8);
        x.range(1, -8, 5);
        x.range(2, -7, 7);
        for (int i = 0; i < 6; i++) {
            x.limit(Due.f(i - 2, 5 - i, i - 3), 7 + i);
        }
        x.turn(2, false);
        x.turn(4, false);
        return x;
    }

    static IntegerBox withoutPoints() {
        IntegerBox x = new IntegerBox();
        x.range(1, -8, 0);
        x.limit(Due.f(0, -1, 0), -1);
        x.limit(Due.f(1, 2, 3), 4);
        return x;
    }

    /** One limit, above which there were others; what those left behind must not count. */
    static IntegerBox dropped() {
        IntegerBox x = new IntegerBox();
        x.limit(Due.f(2, 2, 2), 1);
        x.limit(Due.f(0, 0, 0), -1);
        x.limit(Due.f(1, 0, 0), -8);
        x.drop();
        x.drop();
        return x;
    }

    static IntegerBox rangesAlone() {
        IntegerBox x = new IntegerBox();
        x.range(0, -8, 3);
        x.range(1, -5, 8);
        x.range(2, 2, 4);
        return x;
    }
}
