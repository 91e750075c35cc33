/** An object and the second program Model beside it: each call is made on both. */
final class Beside {
    private final Due due;
    private final String run;
    private final IntegerBox x = new IntegerBox();
    private final Model m = new Model();
    private int calls = 0;

    Beside(Due due, String run) {
        this.due = due;
        this.run = run;
    }

    /** How many calls have been made. */
    int calls() {
        return calls;
    }

    /** How many limits there are, as the second program counts them. */
    int limits() {
        return m.limits();
    }

    private void told(String call, long got, long want) {
        calls++;
        due.due(run + ", call " + calls + ": " + call, got, want);
    }

    private void told(String call, boolean got, boolean want) {
        told(call, got ? 1L : 0L, want ? 1L : 0L);
    }

    void range(int v, int low, int high) {
        String call = "range(" + v + ", " + low + ", " + high + ")";
        told(call, x.range(v, low, high), m.range(v, low, high));
    }

    void limit(int f, int d) {
        told("limit(" + f + ", " + d + ")", x.limit(f, d), m.limit(f, d));
    }

    void relax(int limit, int d) {
        told("relax(" + limit + ", " + d + ")", x.relax(limit, d), m.relax(limit, d));
    }

    void turn(int limit, boolean on) {
        told("turn(" + limit + ", " + on + ")", x.turn(limit, on), m.turn(limit, on));
    }

    void drop() {
        told("drop()", x.drop(), m.drop());
    }

    void points() {
        told("points()", x.points(), m.points());
    }

    void first(int v) {
        told("first(" + v + ")", x.first(v), m.first(v));
    }

    void greatest(int f) {
        told("greatest(" + f + ")", x.greatest(f), m.greatest(f));
    }

    void follows(int f, int d) {
        told("follows(" + f + ", " + d + ")", x.follows(f, d), m.follows(f, d));
    }

    void numbers(int v) {
        told("numbers(" + v + ")", x.numbers(v), m.numbers(v));
    }

    void idle(int limit) {
        told("idle(" + limit + ")", x.idle(limit), m.idle(limit));
    }

    void core() {
        told("core()", x.core(), m.core());
    }

    void tight(int limit) {
        told("tight(" + limit + ")", x.tight(limit), m.tight(limit));
    }
}
