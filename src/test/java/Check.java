/** What the tests share: answers held against what is due, and ways to make long logs. */
final class Check {

    interface Call {
        long answer();
    }

    private static int wrong = 0;

    private Check() {
    }

    static void due(String call, long got, long want) {
        if (got != want) {
            wrong++;
            System.out.println(call + " answered " + got + ", due is " + want);
        }
    }

    static void due(String call, boolean got, boolean want) {
        due(call, got ? 1 : 0, want ? 1 : 0);
    }

    static void dueThrow(String call, Class<? extends RuntimeException> want, Call made) {
        try {
            long got = made.answer();
            wrong++;
            System.out.println(call + " answered " + got + ", due is " + want.getName());
        } catch (RuntimeException thrown) {
            if (thrown.getClass() != want) {
                wrong++;
                System.out.println(call + " threw " + thrown + ", due is " + want.getName());
            }
        }
    }

    /** Ends the test's program, with 1 if an answer was wrong. */
    static void end() {
        System.exit(wrong == 0 ? 0 : 1);
    }

    /** Kind, unit, cell, before, after, torn copies and backing out of a row. */
    static void dueRow(LogForward x, int row, int... want) {
        for (int what = 0; what < want.length; what++) {
            due("at(" + row + ", " + what + ")", x.at(row, what), want[what]);
        }
    }

    static void tearBoth(LogForward x, int row) {
        due("torn(0, " + row + ")", x.torn(0, row), 1);
        due("torn(1, " + row + ")", x.torn(1, row), 1);
    }

    /**
     * An object with image 1 of row 0, unit 1 backed out, and so many rows (1600 to 2000): each
     * recovery to a row within unit 1's backing out backs its 200 changes out once more.
     */
    static LogForward longLog(int rows) {
        LogForward x = new LogForward(1);
        due("copy(false)", x.copy(false), 1);
        for (int i = 1; i <= 200; i++) {
            due("row " + i, x.row(1, 0, i - 1, i), i);
        }
        due("backout(1)", x.backout(1), 200);
        due("rows backed out", x.count(0), 401);
        while (x.count(0) + 200 <= rows - 1) {
            due("recover ahead of the end row", x.recover(1, x.count(0) - 1), 0);
        }
        due("recover to the length", x.recover(1, rows - 201), 0);
        due("the length", x.count(0), rows);
        return x;
    }
}
