/** Promise 4: copy, with what the terms say of START, END and finishing. */
public final class Promise04CopyTest {

    public static void main(String[] args) {
        atMostTwenty();
        ofOneMoment();
        finishedBehindTheFifthRow();
        finishedBehindASyncpoint();
        finishedBehindAnEnd();
        finishedWithinBackingOut();
        finishedByCopy();
        finishedByCopyThatIsRefused();
        finishedByRecoverThatIsRefused();
        bothHalves();
        Check.end();
    }

    private static LogForward withRows(int rows) {
        LogForward x = new LogForward(1);
        more(x, rows);
        return x;
    }

    /** Unit 60 counts cell 31 up, so that the row's number is what the cell holds. */
    private static void more(LogForward x, int rows) {
        for (int k = 0; k < rows; k++) {
            long was = x.get(31);
            Check.due("row", x.row(60, 31, was, was + 1), was + 1);
        }
    }

    private static void atMostTwenty() {
        LogForward x = new LogForward(1);
        for (int image = 1; image <= 20; image++) {
            Check.due("copy", x.copy(image % 2 == 0), image);
        }
        Check.due("copy(false)", x.copy(false), -1);
        Check.due("copy(true)", x.copy(true), -1);
        Check.due("count(1)", x.count(1), 20);
        Check.due("recover(20, 0)", x.recover(20, 0), 0);
        Check.due("recover(21, 0)", x.recover(21, 0), -2);
        more(x, 1);
        Check.due("the rows that are gone free none", x.recover(20, 0), 0);
        Check.due("copy(false)", x.copy(false), -1);
    }

    private static void ofOneMoment() {
        LogForward x = withRows(3);
        Check.due("copy(false)", x.copy(false), 1);
        more(x, 4);
        Check.due("recover(1, 2)", x.recover(1, 2), -4);
        Check.due("sync", x.sync(60), 8);
        Check.due("recover(1, 3)", x.recover(1, 3), 0);
        Check.due("get(31)", x.get(31), 0);
        Check.due("count(0)", x.count(0), 7);
    }

    private static void finishedBehindTheFifthRow() {
        LogForward x = withRows(2);
        Check.due("copy(true)", x.copy(true), 1);
        more(x, 9);
        Check.due("recover(1, 6)", x.recover(1, 6), -4);
        Check.due("recover(1, 7)", x.recover(1, 7), 0);
        Check.due("count(0)", x.count(0), 15);

        LogForward four = withRows(2);
        Check.due("copy(true)", four.copy(true), 1);
        more(four, 4);
        Check.due("recover(1, 5)", four.recover(1, 5), -4);
        more(four, 3);
        Check.due("recover(1, 5)", four.recover(1, 5), -4);
        Check.due("that recover() finished it", four.recover(1, 6), 0);
    }

    private static void finishedBehindASyncpoint() {
        LogForward x = new LogForward(1);
        Check.due("copy(true)", x.copy(true), 1);
        more(x, 4);
        Check.due("sync(60)", x.sync(60), 5);
        Check.due("row", x.row(1, 0, 0, 1), 6);
        Check.due("recover(1, 4)", x.recover(1, 4), -4);
        Check.due("recover(1, 5)", x.recover(1, 5), 1);
        Check.due("get(31)", x.get(31), 4);
    }

    private static void finishedBehindAnEnd() {
        LogForward x = withRows(4);
        Check.due("copy(true)", x.copy(true), 1);
        Check.due("backout(60)", x.backout(60), 4);
        Check.due("row", x.row(1, 0, 0, 1), 10);
        Check.due("recover(1, 8)", x.recover(1, 8), -4);
        Check.due("recover(1, 9)", x.recover(1, 9), 0);
        Check.due("count(0)", x.count(0), 9);
    }

    private static void finishedWithinBackingOut() {
        LogForward x = withRows(6);
        Check.due("copy(true)", x.copy(true), 1);
        Check.due("backout(60)", x.backout(60), 6);
        Check.due("count(0)", x.count(0), 13);
        Check.due("recover(1, 10)", x.recover(1, 10), -4);
        Check.due("recover(1, 11)", x.recover(1, 11), 0);
        Check.due("count(0)", x.count(0), 18);
        Check.due("get(31)", x.get(31), 0);
    }

    private static void finishedByCopy() {
        LogForward x = withRows(1);
        Check.due("copy(true)", x.copy(true), 1);
        more(x, 2);
        Check.due("copy(true)", x.copy(true), 2);
        more(x, 4);
        Check.due("recover(1, 2)", x.recover(1, 2), -4);
        Check.due("recover(2, 6)", x.recover(2, 6), -4);
        Check.due("recover(1, 3)", x.recover(1, 3), 0);
        Check.due("its END was 7", x.recover(2, 7), -2);
    }

    private static void finishedByCopyThatIsRefused() {
        LogForward x = withRows(1);
        for (int image = 1; image <= 19; image++) {
            Check.due("copy(false)", x.copy(false), image);
        }
        Check.due("copy(true)", x.copy(true), 20);
        more(x, 1);
        Check.due("copy(false)", x.copy(false), -1);
        more(x, 2);
        Check.due("recover(20, 1)", x.recover(20, 1), -4);
        Check.due("recover(20, 2)", x.recover(20, 2), 0);
    }

    private static void finishedByRecoverThatIsRefused() {
        LogForward x = withRows(1);
        Check.due("copy(true)", x.copy(true), 1);
        more(x, 1);
        Check.due("recover(7, 0)", x.recover(7, 0), -2);
        more(x, 2);
        Check.due("recover(1, 2)", x.recover(1, 2), 0);
    }

    /** Cells 15 and 16 stand at the border of what a fuzzy image takes at once. */
    private static void bothHalves() {
        LogForward x = new LogForward(1);
        int[] cells = {0, 15, 16, 31};
        for (int k = 0; k < cells.length; k++) {
            Check.due("row", x.row(1, cells[k], 0, 10 + cells[k]), k + 1);
        }
        Check.due("sync(1)", x.sync(1), 5);
        Check.due("copy(true)", x.copy(true), 1);
        Check.due("row of 2", x.row(2, 15, 25, 1), 6);
        Check.due("row of 2", x.row(2, 16, 26, 2), 7);
        Check.due("sync(2)", x.sync(2), 8);
        Check.due("copy(false)", x.copy(false), 2);
        Check.due("row of 3", x.row(3, 0, 10, 3), 9);
        Check.due("row of 3", x.row(3, 31, 41, 4), 10);
        Check.due("recover(1, 8)", x.recover(1, 8), 2);
        long[] want = {10, 1, 2, 41};
        for (int k = 0; k < cells.length; k++) {
            Check.due("get(" + cells[k] + ")", x.get(cells[k]), want[k]);
        }
        Check.due("recover(2, 8)", x.recover(2, 8), 2);
        for (int k = 0; k < cells.length; k++) {
            Check.due("get(" + cells[k] + ")", x.get(cells[k]), want[k]);
        }
    }
}
