/** Counts the answers of one test program that are not as due. */
final class Due {
    static final int NONE = -1, BAD = -2, NO = -3, FULL = -4, SPENT = -5;
    private static int looked = 0;
    private static int wrong = 0;

    private Due() {
    }

    static void is(String call, long got, long want) {
        looked++;
        if (got != want) {
            wrong++;
            System.out.println(call + " answered " + got + ", due is " + want);
        }
    }

    static void holds(String what, boolean held) {
        looked++;
        if (!held) {
            wrong++;
            System.out.println("does not hold: " + what);
        }
    }

    /** A test that looked at nothing has not passed. */
    static void end() {
        if (wrong != 0 || looked == 0) {
            System.out.println(wrong + " of " + looked + " answers are not as due");
            System.exit(1);
        }
    }
}
