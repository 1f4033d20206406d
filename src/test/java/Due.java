/** Counts and prints the calls whose answer is not the one that is due. */
final class Due {
    private static int wrong = 0;

    private Due() {
    }

    static void is(String call, long got, long want) {
        if (got != want) {
            wrong++;
            System.out.println(call + " answered " + got + ", due is " + want);
        }
    }

    static void holds(String what, boolean holds) {
        is(what, holds ? 1 : 0, 1);
    }

    static int wrong() {
        return wrong;
    }

    /** The last call of a test. */
    static void end() {
        System.out.println(wrong == 0 ? "all answers are as due" : wrong + " answers are not as due");
        if (wrong != 0) System.exit(1);
    }
}
