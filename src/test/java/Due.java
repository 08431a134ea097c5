/** Compares answers with those that are due, and ends a test with exit code 1 if one was not. */
final class Due {
    private static final int MOST_LINES = 10;

    private static String about = "";
    private static int linesAbout = 0;
    private static int wrong = 0;
    private static int looked = 0;

    private Due() {
    }

    /** Names the sentence that the answers looked at from now on belong to. */
    static void about(String sentence) {
        about = sentence;
        linesAbout = 0;
    }

    static void same(String call, long got, long want) {
        looked++;
        if (got != want) {
            tell(call + " answered " + got + ", due is " + want);
        }
    }

    static void yes(String what, boolean holds) {
        looked++;
        if (!holds) {
            tell("not so: " + what);
        }
    }

    static int wrongSoFar() {
        return wrong;
    }

    static int lookedSoFar() {
        return looked;
    }

    static void end() {
        System.out.println(looked + " answers looked at, " + wrong + " not as due");
        if (wrong != 0 || looked == 0) {
            System.exit(1);
        }
    }

    // One broken line of the class can make thousands of answers wrong; the first ones are enough.
    private static void tell(String line) {
        wrong++;
        linesAbout++;
        if (linesAbout == 1 && !about.isEmpty()) {
            System.out.println("WRONG [" + about + "]");
        }
        if (linesAbout <= MOST_LINES) {
            System.out.println("  " + line);
        }
    }
}
