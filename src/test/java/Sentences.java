/** Due answers, each under the sentence of the document that asks for it. */
final class Sentences {
    private static final int PROMISES = 23;

    private final Checks checks = new Checks();
    private final int[] answers = new int[PROMISES + 1];
    private int promise = 0;
    private String words = "";
    private int answersNow = 1;

    /** The sentence by which the next answers are due. */
    void says(int ofPromise, String itsWords) {
        checks.holds("a test for '" + words + "'", answersNow > 0);
        promise = ofPromise;
        words = itsWords;
        answersNow = 0;
    }

    void due(String call, long got, long want) {
        answersNow++;
        answers[promise]++;
        checks.due("promise " + promise + ", '" + words + "': " + call, got, want);
    }

    void holds(String what, boolean isSo) {
        due(what, isSo ? 1 : 0, 1);
    }

    /** Ends the run of tests; each of these promises must have had a test. */
    void end(int first, int last) {
        says(0, "the end");
        for (int p = first; p <= last; p++) {
            checks.holds("a test of promise " + p, answers[p] > 0);
        }
        checks.end();
    }
}
