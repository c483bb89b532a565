/** Compares answers with the ones that are due, and ends the test's program accordingly. */
final class Due {
    private static final int MOST_PRINTED = 20;

    private int checked = 0;
    private int wrong = 0;

    void is(String call, long got, long want) {
        checked++;
        if (got != want) {
            tell(call + " answered " + got + ", due is " + want);
        }
    }

    /** For the loops over millions of calls: the text is only made when it is needed. */
    void isIn(String what, int first, int second, int third, long got, long want) {
        checked++;
        if (got != want) {
            tell(what + " (" + first + ", " + second + ", " + third + ") answered " + got + ", due is " + want);
        }
    }

    /** The sixteen cells as peek tells them: the current row first, then the previous one. */
    void cells(String when, PaethFilter filter, int[] want) {
        for (int i = 0; i < 16; i++) {
            is(when + ": peek(" + i + ")", filter.peek(i), want[i]);
        }
    }

    void holds(String what, boolean fact) {
        checked++;
        if (!fact) {
            tell(what + " does not hold");
        }
    }

    void end() {
        // A test that checked nothing must not pass for a good one.
        boolean good = wrong == 0 && checked > 0;
        System.out.println(checked + " checks, " + wrong + " wrong");
        if (!good) {
            System.exit(1);
        }
    }

    private void tell(String text) {
        wrong++;
        if (wrong <= MOST_PRINTED) {
            System.out.println(text);
        }
    }
}
