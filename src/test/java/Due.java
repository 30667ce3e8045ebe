import java.util.function.LongSupplier;

/** Counts the answers of one test program that are not as due. */
final class Due {
    static final int NONE = -1, BAD = -2, NO = -3, FULL = -4, SPENT = -5;
    private static int looked = 0;
    private static int wrong = 0;
    private static String sentence = "";
    private static int lookedAhead = 0;

    private Due() {
    }

    /** Names the sentence of the document by which the answers that follow are due. */
    static void says(String where, String words) {
        endSentence();
        sentence = where + ", \"" + words + "\": ";
        lookedAhead = looked;
    }

    /** A sentence that no answer was held against has no test. */
    private static void endSentence() {
        if (!sentence.isEmpty() && looked == lookedAhead) {
            wrong++;
            System.out.println(sentence + "nothing is looked at");
        }
    }

    static void is(String call, long got, long want) {
        looked++;
        if (got != want) {
            wrong++;
            System.out.println(sentence + call + " answered " + got + ", due is " + want);
        }
    }

    static void holds(String what, boolean held) {
        looked++;
        if (!held) {
            wrong++;
            System.out.println(sentence + "does not hold: " + what);
        }
    }

    /** A call that is refused ahead of any search: its answer, and that nothing is changed. */
    static void refused(ArrowTables x, String call, int want, LongSupplier made) {
        refusedBehind(x, call, want, x.count(2), made);
    }

    /** A call that is refused behind a search, which has its tries. */
    static void refusedBehind(ArrowTables x, String call, int want, int tries, LongSupplier made) {
        long before = x.digest();
        int leg = x.leg(0);
        is(call, made.getAsLong(), want);
        is("digest() behind " + call, x.digest(), before);
        is("leg(0) behind " + call, x.leg(0), leg);
        is("count(2) behind " + call, x.count(2), tries);
    }

    /** The form of a call of which one number is told. */
    interface Call {
        long answer(int number);
    }

    /** The numbers just outside, and the outermost ones, are each refused with BAD. */
    static void bad(ArrowTables x, String call, Call made, int below, int above) {
        for (int odd : new int[] {below, above, Integer.MIN_VALUE, Integer.MAX_VALUE}) {
            refused(x, call + " of " + odd, BAD, () -> made.answer(odd));
        }
    }

    /** A test that looked at nothing has not passed. */
    static void end() {
        endSentence();
        if (wrong != 0 || looked == 0) {
            System.out.println(wrong + " of " + looked + " answers are not as due");
            System.exit(1);
        }
    }
}
