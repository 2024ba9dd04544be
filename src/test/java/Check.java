/** Counts answers that are due, and prints those that are not as due. */
final class Check {
    private static final int MOST_PRINTED = 40;
    private final String name;
    private String sentence = "";
    private int sentences;
    private int beforeSentence;
    private int passed;
    private int failed;

    Check(String name) {
        this.name = name;
    }

    /** From here on answers are due by these words of the document. */
    void sentence(String words) {
        endSentence();
        sentence = "[" + words + "] ";
        sentences++;
        beforeSentence = passed + failed;
    }

    void due(String call, long got, long want) {
        if (got == want) {
            passed++;
            return;
        }
        failed++;
        if (failed <= MOST_PRINTED) {
            System.out.println(name + ": " + sentence + call + " answered " + got + ", due is " + want);
        }
    }

    void holds(String what, boolean is) {
        due(what, is ? 1 : 0, 1);
    }

    void end() {
        endSentence();
        String tested = sentences == 0 ? "" : " (" + sentences + " sentences)";
        System.out.println(name + ": " + passed + " answers as due, " + failed + " not" + tested);
        if (failed > 0 || passed == 0) {
            System.exit(1);
        }
    }

    /** A sentence that is named but not tested is a fault of the test. */
    private void endSentence() {
        if (sentences > 0 && passed + failed == beforeSentence) {
            holds("has no test", false);
        }
    }
}
