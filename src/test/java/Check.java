/** Counts and prints the answers that are not the ones that are due. */
final class Check {
    private String sentence = "";
    private int sentences = 0;
    private int asked = 0;
    private int askedBefore = 0;
    private int wrong = 0;

    /** From here on the answers are asked for the sake of this sentence of the document. */
    void sentence(String where, String words) {
        closeSentence();
        sentence = where + ": \"" + words + "\": ";
        sentences++;
        askedBefore = asked;
    }

    void due(String call, long got, long want) {
        asked++;
        if (got != want) {
            wrong++;
            System.out.println(sentence + call + " answered " + got + ", due is " + want);
        }
    }

    /** Runs a test; if it throws, that is wrong, and the tests after it are run all the same. */
    void run(Runnable test) {
        try {
            test.run();
        } catch (RuntimeException thrown) {
            fault("threw " + thrown);
        }
    }

    void fault(String what) {
        asked++;
        wrong++;
        System.out.println(sentence + what);
    }

    int wrongSoFar() {
        return wrong;
    }

    void finish() {
        closeSentence();
        String named = sentences == 0 ? "" : sentences + " sentences, ";
        System.out.println(named + asked + " answers looked at, " + wrong + " not as due");
        if (wrong != 0) {
            System.exit(1);
        }
    }

    /** A sentence that no answer was asked for is not tested. */
    private void closeSentence() {
        if (sentences > 0 && asked == askedBefore) {
            fault("no answer was looked at");
        }
    }
}
