/** Compares answers with those that are due, and ends a test with exit code 1 if one was wrong. */
final class Check {
    static final long BAD_LONG = Long.MIN_VALUE + 2;
    static final long NOT_LONG = Long.MIN_VALUE + 5;

    private static int compared = 0;
    private static int wrong = 0;

    private Check() {
    }

    static void due(String what, long got, long want) {
        compared++;
        if (got != want) {
            wrong++;
            System.out.println(what + " answered " + got + ", due is " + want);
        }
    }

    /** Compares bits, so that -0.0 is not taken for 0.0. */
    static void dueNumber(String what, double got, double want) {
        compared++;
        if (Double.doubleToRawLongBits(got) != Double.doubleToRawLongBits(want)) {
            wrong++;
            System.out.println(what + " answered " + got + ", due is " + want);
        }
    }

    static void holds(String what, boolean isSo) {
        compared++;
        if (!isSo) {
            wrong++;
            System.out.println(what + " does not hold");
        }
    }

    static int wrongSoFar() {
        return wrong;
    }

    static void finish() {
        System.out.println(compared + " answers compared, " + wrong + " wrong");
        if (wrong != 0) {
            System.exit(1);
        }
    }
}
