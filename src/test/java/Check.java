/** Counts the answers that are not the ones due, and ends the test with exit code 1 if there was one. */
final class Check {
    private static String sentence = "";
    private static int sentences = 0;
    private static int askedOfSentence = 1;
    private static int asked = 0;
    private static int wrong = 0;

    private Check() {
    }

    /**
     * The document's own words that the answers from here on are due to; told with each wrong answer. DocumentTest
     * reads them where they stand in the tests' sources, so they are written out there.
     */
    static String says(String words) {
        endSentence();
        sentence = words;
        sentences++;
        askedOfSentence = 0;
        return words;
    }

    /** The same, with the case of these words that is tested. */
    static void says(String words, String which) {
        sentence = says(words) + " (" + which + ")";
    }

    static void due(String call, long want, long got) {
        due(call, Long.toString(want), Long.toString(got));
    }

    static void due(String call, String want, String got) {
        asked++;
        askedOfSentence++;
        if (!got.equals(want)) {
            wrong++;
            System.out.println(call + " answered " + got + ", due is " + want
                + (sentence.isEmpty() ? "" : "\n    by: " + sentence));
        }
    }

    static int wrongSoFar() {
        return wrong;
    }

    static void end(String test) {
        endSentence();
        System.out.println(test + ": " + sentences + " sentences, " + asked + " answers, " + wrong + " wrong");
        // A test that asked nothing has shown nothing.
        if (wrong != 0 || asked == 0) {
            System.exit(1);
        }
    }

    private static void endSentence() {
        if (askedOfSentence == 0) {
            wrong++;
            System.out.println("nothing was asked by: " + sentence);
        }
    }
}
