/** Promise 9: archive. */
public final class Promise09ArchiveTest {

    public static void main(String[] args) {
        Sentences promise = new Sentences("Promise 9: archive");
        promise.says("Rows 1 .. n are archived", "row n, not the one behind", Promise09ArchiveTest::upToN);
        promise.says("how many are", "all of a full log", Promise09ArchiveTest::full);
        promise.says("(never fewer than were)", "a smaller n, and 0", Promise09ArchiveTest::neverFewer);
        promise.says("-4 when n is not 0 .. the latest row", "too small", Promise09ArchiveTest::tooSmall);
        promise.says("-4 when n is not 0 .. the latest row", "too large", Promise09ArchiveTest::tooLarge);
        promise.says("-4 when n is not 0 .. the latest row", "without rows", Promise09ArchiveTest::empty);
        String gone = "(Rows that are gone by recovery are so there, too.)";
        promise.says(gone, "some of the archived", Promise09ArchiveTest::someGone);
        promise.says(gone, "all of them", Promise09ArchiveTest::allGone);
        promise.says(gone, "none of them", Promise09ArchiveTest::noneGone);
        promise.says(gone, "new rows of their numbers are not archived", Promise09ArchiveTest::newRows);
        promise.says(gone, "not by a recovery that is refused", Promise09ArchiveTest::refusedRecovery);
        promise.end();
    }

    private static LogForward withRows(int rows) {
        LogForward x = new LogForward(1);
        Check.images(x, 1);
        Check.countUp(x, 1, 0, rows);
        return x;
    }

    private static void upToN() {
        LogForward x = withRows(5);
        Check.due("archive(0)", x.archive(0), 0);
        Check.due("archive(3)", x.archive(3), 3);
        for (int row = 1; row <= 3; row++) {
            Check.due("torn(0, " + row + ")", x.torn(0, row), -5);
        }
        Check.due("torn(0, 4)", x.torn(0, 4), 1);
        Check.due("archive(5)", x.archive(5), 5);
        Check.due("torn(0, 5)", x.torn(0, 5), -5);
        Check.dueCounts(x, 5, 1, 5, 0);
        Check.dueRow(x, 1, 0, 1, 0, 0, 1, 0, 0);
    }

    private static void full() {
        LogForward x = Check.longLog(2000);
        Check.due("archive(2001)", x.archive(2001), -4);
        Check.due("archive(2000)", x.archive(2000), 2000);
        Check.due("count(2)", x.count(2), 2000);
        Check.due("archive(2001)", x.archive(2001), -4);
        Check.due("archive(1)", x.archive(1), 2000);
    }

    private static void neverFewer() {
        LogForward x = withRows(5);
        Check.due("archive(3)", x.archive(3), 3);
        Check.dueRefused("archive(2)", x, 3, () -> x.archive(2));
        Check.dueRefused("archive(0)", x, 3, () -> x.archive(0));
        Check.due("archive(3)", x.archive(3), 3);
        Check.due("count(2)", x.count(2), 3);
        Check.due("torn(0, 3)", x.torn(0, 3), -5);
        Check.due("archive(4)", x.archive(4), 4);
    }

    private static void tooSmall() {
        LogForward x = withRows(3);
        int[] small = {-1, -2, -2000, Integer.MIN_VALUE + 1, Integer.MIN_VALUE};
        for (int n : small) {
            Check.due("archive(" + n + ")", x.archive(n), -4);
        }
        Check.due("archive(2)", x.archive(2), 2);
        Check.dueRefused("archive(-1)", x, -4, () -> x.archive(-1));
    }

    private static void tooLarge() {
        LogForward x = withRows(3);
        int[] large = {4, 5, 2000, 2001, Integer.MAX_VALUE - 1, Integer.MAX_VALUE};
        for (int n : large) {
            Check.due("archive(" + n + ")", x.archive(n), -4);
        }
        Check.dueRefused("archive(4)", x, -4, () -> x.archive(4));
        Check.due("archive(3)", x.archive(3), 3);
    }

    private static void empty() {
        LogForward x = new LogForward(1);
        Check.due("archive(0)", x.archive(0), 0);
        Check.due("archive(1)", x.archive(1), -4);
        Check.due("archive(-1)", x.archive(-1), -4);
        Check.due("count(2)", x.count(2), 0);
    }

    private static void someGone() {
        LogForward x = withRows(5);
        Check.due("archive(5)", x.archive(5), 5);
        Check.due("recover(1, 2)", x.recover(1, 2), 0);
        Check.due("count(0)", x.count(0), 5);
        Check.due("count(2)", x.count(2), 2);
        Check.due("archive(0)", x.archive(0), 2);
        Check.due("archive(3)", x.archive(3), 3);
    }

    private static void allGone() {
        LogForward x = withRows(5);
        Check.due("archive(5)", x.archive(5), 5);
        Check.due("recover(1, 0)", x.recover(1, 0), 0);
        Check.due("count(2)", x.count(2), 0);
        Check.due("archive(0)", x.archive(0), 0);
        Check.due("archive(1)", x.archive(1), -4);
    }

    private static void noneGone() {
        LogForward x = withRows(5);
        Check.due("archive(2)", x.archive(2), 2);
        Check.due("recover(1, 3)", x.recover(1, 3), 0);
        Check.due("count(2)", x.count(2), 2);
        Check.due("until at the last archived one", x.recover(1, 2), 0);
        Check.due("count(2)", x.count(2), 2);
        Check.due("until ahead of it", x.recover(1, 1), 0);
        Check.due("count(2)", x.count(2), 1);
    }

    private static void newRows() {
        LogForward x = withRows(5);
        Check.due("archive(5)", x.archive(5), 5);
        Check.due("recover(1, 1)", x.recover(1, 1), 0);
        Check.due("torn(0, 1)", x.torn(0, 1), -5);
        Check.due("torn(0, 2)", x.torn(0, 2), 1);
        Check.countUp(x, 2, 0, 3);
        Check.due("torn(0, 5)", x.torn(0, 5), 1);
        Check.due("count(2)", x.count(2), 1);
    }

    private static void refusedRecovery() {
        LogForward x = withRows(5);
        Check.due("archive(4)", x.archive(4), 4);
        Check.tearBoth(x, 5);
        Check.due("recover(1, 5)", x.recover(1, 5), -15);
        Check.due("recover(1, 6)", x.recover(1, 6), -4);
        Check.due("recover(2, 0)", x.recover(2, 0), -2);
        Check.due("count(2)", x.count(2), 4);
    }
}
