/** Counts and prints the calls whose answer is not the one that is due. */
final class Due {
    private static String heading = "";
    private static int wrong = 0;
    private static int asked = 0;

    private Due() {
    }

    /** What is asked from here on is told with this ahead. */
    static void under(String newHeading) {
        heading = newHeading;
        asked = 0;
    }

    static void is(String call, long got, long want) {
        asked++;
        if (got != want) {
            wrong++;
            System.out.println(heading + call + " answered " + got + ", due is " + want);
        }
    }

    static void holds(String what, boolean holds) {
        is(what, holds ? 1 : 0, 1);
    }

    static void same(String what, String got, String want) {
        is(what + (got.equals(want) ? "" : ": " + got + " for " + want), got.equals(want) ? 1 : 0, 1);
    }

    static void share(String call, long upper, long lower, long dueUpper, long dueLower) {
        is(call + " upper", upper, dueUpper);
        is(call + " lower", lower, dueLower);
    }

    static int wrong() {
        return wrong;
    }

    /** How much was asked under the heading. */
    static int asked() {
        return asked;
    }

    /** The last call of a test. */
    static void end() {
        System.out.println(wrong == 0 ? "all answers are as due" : wrong + " answers are not as due");
        if (wrong != 0) System.exit(1);
    }
}
