/** Counts the answers that are not the ones due, and ends the test with exit code 1 if there was one. */
final class Check {
    private static int asked = 0;
    private static int wrong = 0;

    private Check() {
    }

    static void due(String call, long want, long got) {
        due(call, Long.toString(want), Long.toString(got));
    }

    static void due(String call, String want, String got) {
        asked++;
        if (!got.equals(want)) {
            wrong++;
            System.out.println(call + " answered " + got + ", due is " + want);
        }
    }

    static int wrongSoFar() {
        return wrong;
    }

    static void end(String test) {
        System.out.println(test + ": " + asked + " answers, " + wrong + " wrong");
        // A test that asked nothing has shown nothing.
        if (wrong != 0 || asked == 0) {
            System.exit(1);
        }
    }
}
