/** What the tests share: answers held against what is due, and ways to make logs. */
final class Check {

    interface Call {
        long answer();
    }

    /** Numbers that are too small or too large for anything that the document counts. */
    static final int[] FAR_OFF = {
        Integer.MIN_VALUE, Integer.MIN_VALUE + 1, -2001, -61, -32, -2, 2001, 1 << 16, Integer.MAX_VALUE - 1,
        Integer.MAX_VALUE,
    };

    private static final int ROWS_IN_A_STATE = 12;

    private static int wrong = 0;

    private Check() {
    }

    static int wrong() {
        return wrong;
    }

    static void failed(String why) {
        wrong++;
        System.out.println("    " + why);
    }

    static void due(String call, long got, long want) {
        if (got != want) {
            failed(call + " answered " + got + ", due is " + want);
        }
    }

    static void due(String call, boolean got, boolean want) {
        due(call, got ? 1 : 0, want ? 1 : 0);
    }

    static void dueThrow(String call, Class<? extends RuntimeException> want, Call made) {
        try {
            failed(call + " answered " + made.answer() + ", due is " + want.getName());
        } catch (RuntimeException thrown) {
            if (thrown.getClass() != want) {
                failed(call + " threw " + thrown + ", due is " + want.getName());
            }
        }
    }

    /** Ends the test's program, with 1 if an answer was wrong. */
    static void end() {
        System.exit(wrong == 0 ? 0 : 1);
    }

    /** Kind, unit, cell, before, after, torn copies and backing out of a row. */
    static void dueRow(LogForward x, int row, int... want) {
        for (int what = 0; what < want.length; what++) {
            due("at(" + row + ", " + what + ")", x.at(row, what), want[what]);
        }
    }

    /** The counts 0, 1, 2, 3: rows, images, archived rows, synced units. */
    static void dueCounts(LogForward x, int... want) {
        for (int what = 0; what < want.length; what++) {
            due("count(" + what + ")", x.count(what), want[what]);
        }
    }

    static void dueNoRow(LogForward x, int row) {
        dueThrow("at(" + row + ", 0)", ArrayIndexOutOfBoundsException.class, () -> x.at(row, 0));
        due("torn(0, " + row + ")", x.torn(0, row), -2);
    }

    /** A call that is refused with this answer, and leaves what can be read as it was. */
    static void dueRefused(String call, LogForward x, long want, Call made) {
        String before = state(x);
        due(call, made.answer(), want);
        String after = state(x);
        if (!after.equals(before)) {
            failed(call + " changed " + before + " to " + after);
        }
    }

    /** What can be read of an object, of its rows the latest ones: at most 122 calls. */
    private static String state(LogForward x) {
        StringBuilder all = new StringBuilder();
        int rows = x.count(0);
        all.append("rows ").append(rows).append(" images ").append(x.count(1));
        all.append(" archived ").append(x.count(2)).append(" synced ").append(x.count(3));
        all.append(" open ").append(x.warm()).append(" ahead ").append(x.ahead()).append(" cells");
        for (int cell = 0; cell < 32; cell++) {
            all.append(' ').append(x.get(cell));
        }
        for (int row = Math.max(1, rows - ROWS_IN_A_STATE + 1); row <= rows; row++) {
            all.append(" row ").append(row);
            for (int what = 0; what <= 6; what++) {
                all.append(' ').append(x.at(row, what));
            }
        }
        return all.toString();
    }

    static void tearBoth(LogForward x, int row) {
        due("torn(0, " + row + ")", x.torn(0, row), 1);
        due("torn(1, " + row + ")", x.torn(1, row), 1);
    }

    /** So many changes of a unit to a cell, each by one more than the cell held. */
    static void countUp(LogForward x, int unit, int cell, int rows) {
        int latest = x.count(0);
        long held = x.get(cell);
        for (int k = 1; k <= rows; k++) {
            due("row(" + unit + ", " + cell + ", ..)", x.row(unit, cell, held + k - 1, held + k), latest + k);
        }
    }

    /** A unit that makes one change, from what the cell holds, and is synced: two rows. */
    static void syncedUnit(LogForward x, int unit, int cell, long after) {
        int latest = x.count(0);
        due("row(" + unit + ", " + cell + ", ..)", x.row(unit, cell, x.get(cell), after), latest + 1);
        due("sync(" + unit + ")", x.sync(unit), latest + 2);
    }

    /** So many images of one moment, as the first ones of an object. */
    static void images(LogForward x, int many) {
        for (int image = 1; image <= many; image++) {
            due("copy(false)", x.copy(false), image);
        }
    }

    /**
     * An object with image 1 of row 0, unit 1 backed out, and so many rows (1600 to 2000), made by
     * some 215 calls: each recovery to a row within unit 1's backing out backs its 200 changes of
     * cell 0 out once more.
     */
    static LogForward longLog(int rows) {
        LogForward x = new LogForward(1);
        due("copy(false)", x.copy(false), 1);
        for (int i = 1; i <= 200; i++) {
            due("row " + i, x.row(1, 0, i - 1, i), i);
        }
        due("backout(1)", x.backout(1), 200);
        due("rows backed out", x.count(0), 401);
        for (int latest = 401; latest + 200 <= rows - 1; latest += 200) {
            due("recover ahead of the end row", x.recover(1, latest - 1), 0);
        }
        due("recover to the length", x.recover(1, rows - 201), 0);
        due("the length", x.count(0), rows);
        return x;
    }
}
