/** Counts the answers that are not as due; a test ends with exit code 1 if there was one. */
final class Due {
    private int wrong = 0;
    private int asked = 0;
    private int sentences = 0;
    private int askedBefore = 0;
    private String sentence = "";

    /** The sentence of the document that the answers from here on are asked for. */
    void sentence(String words) {
        endSentence();
        sentences++;
        sentence = words;
        askedBefore = asked;
    }

    /** A sentence with no answers asked for it has no test, so that counts as wrong too. */
    private void endSentence() {
        if (sentences > 0 && asked == askedBefore) {
            wrong++;
            System.out.println("[" + sentence + "] has no test");
        }
    }

    void due(String call, long got, long want) {
        asked++;
        if (got != want) {
            wrong++;
            System.out.println(heading() + call + " answered " + got + ", due is " + want);
        }
    }

    void due(String call, boolean got, boolean want) {
        due(call, got ? 1L : 0L, want ? 1L : 0L);
    }

    void same(String call, String got, String want) {
        asked++;
        if (!got.equals(want)) {
            wrong++;
            System.out.println(heading() + call + " gave\n  " + got + "\nand due is\n  " + want);
        }
    }

    private String heading() {
        return sentence.isEmpty() ? "" : "[" + sentence + "] ";
    }

    void end() {
        endSentence();
        String of = sentences == 0 ? "" : " for " + sentences + " sentences";
        System.out.println(asked + " answers" + of + ", " + wrong + " not as due");
        if (wrong != 0) {
            System.exit(1);
        }
    }

    /** Three factors in one number. */
    static int f(int a, int b, int c) {
        return (a + 5) | ((b + 5) << 4) | ((c + 5) << 8);
    }

    /** The factors with one of them given and the others nought. */
    static int alone(int v, int factor) {
        return f(v == 0 ? factor : 0, v == 1 ? factor : 0, v == 2 ? factor : 0);
    }
}
