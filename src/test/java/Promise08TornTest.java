/**
 * Promise 8: torn. Which of 0 and -5 comes first, of a row that was torn in the copy and archived
 * then, the document leaves open; so no test asks for it.
 */
public final class Promise08TornTest {

    public static void main(String[] args) {
        Sentences promise = new Sentences("Promise 8: torn");
        promise.says("A row is torn in a copy 0, 1: 1", "each copy for itself", Promise08TornTest::eachCopy);
        promise.says("A row is torn in a copy 0, 1: 1", "the first and the last row", Promise08TornTest::firstAndLast);
        promise.says("A row is torn in a copy 0, 1: 1", "rows of every kind", Promise08TornTest::everyKind);
        promise.says("0 when it was", "torn in that copy, not in the other", Promise08TornTest::again);
        promise.says("-2 no such copy or row", "copies too small", Promise08TornTest::copiesTooSmall);
        promise.says("-2 no such copy or row", "copies too large", Promise08TornTest::copiesTooLarge);
        promise.says("-2 no such copy or row", "rows too small", Promise08TornTest::rowsTooSmall);
        promise.says("-2 no such copy or row", "rows too large", Promise08TornTest::rowsTooLarge);
        promise.says("-2 no such copy or row", "rows that are gone", Promise08TornTest::rowsGone);
        promise.says("-2 no such copy or row", "of an archived row, too", Promise08TornTest::noCopyOfArchived);
        promise.says("-5 it is archived", "the last that is, and the next", Promise08TornTest::archived);
        promise.says("-5 it is archived", "all of a full log", Promise08TornTest::allArchived);
        promise.term("Each row stands in copies 0 and 1, each of which may be TORN; a row torn in both is MISSING",
            "in one it is not", Promise08TornTest::missing);
        promise.end();
    }

    private static LogForward withRows(int rows) {
        LogForward x = new LogForward(1);
        Check.countUp(x, 1, 0, rows);
        return x;
    }

    private static void eachCopy() {
        LogForward x = withRows(3);
        Check.due("torn(0, 1)", x.torn(0, 1), 1);
        Check.due("torn(1, 2)", x.torn(1, 2), 1);
        Check.due("at(1, 5)", x.at(1, 5), 1);
        Check.due("at(2, 5)", x.at(2, 5), 2);
        Check.due("at(3, 5)", x.at(3, 5), 0);
        Check.due("torn(1, 1)", x.torn(1, 1), 1);
        Check.due("torn(0, 2)", x.torn(0, 2), 1);
        Check.due("at(1, 5)", x.at(1, 5), 3);
        Check.due("at(2, 5)", x.at(2, 5), 3);
        Check.due("at(3, 5)", x.at(3, 5), 0);
        Check.due("the cell stays", x.get(0), 3);
    }

    private static void firstAndLast() {
        LogForward x = Check.longLog(2000);
        Check.due("torn(1, 1)", x.torn(1, 1), 1);
        Check.due("torn(1, 2000)", x.torn(1, 2000), 1);
        Check.due("torn(0, 2000)", x.torn(0, 2000), 1);
        Check.due("at(1, 5)", x.at(1, 5), 2);
        Check.due("at(2000, 5)", x.at(2000, 5), 3);
        Check.due("at(1999, 5)", x.at(1999, 5), 0);
    }

    private static void everyKind() {
        LogForward x = withRows(1);
        Check.due("backout(1)", x.backout(1), 1);
        Check.syncedUnit(x, 2, 0, 5);
        for (int row = 1; row <= 5; row++) {
            Check.due("torn(0, " + row + ")", x.torn(0, row), 1);
            Check.due("at(" + row + ", 5)", x.at(row, 5), 1);
        }
        Check.dueRow(x, 5, 1, 2, -1, 0, 0, 1, 0);
        Check.dueRow(x, 3, 2, 1, -1, 0, 0, 1, 1);
    }

    private static void again() {
        LogForward x = withRows(2);
        Check.due("torn(0, 1)", x.torn(0, 1), 1);
        Check.dueRefused("torn(0, 1)", x, 0, () -> x.torn(0, 1));
        Check.due("the other copy was not", x.torn(1, 1), 1);
        Check.dueRefused("torn(1, 1)", x, 0, () -> x.torn(1, 1));
        Check.due("nor was the other row", x.torn(0, 2), 1);
    }

    private static void copiesTooSmall() {
        LogForward x = withRows(1);
        int[] small = {-1, -2, -31, -32, Integer.MIN_VALUE + 1, Integer.MIN_VALUE};
        for (int copy : small) {
            Check.due("torn(" + copy + ", 1)", x.torn(copy, 1), -2);
        }
        Check.dueRefused("torn(-1, 1)", x, -2, () -> x.torn(-1, 1));
        Check.due("at(1, 5)", x.at(1, 5), 0);
    }

    /** Shifts by 32 and 33 would wrap round to copies 0 and 1. */
    private static void copiesTooLarge() {
        LogForward x = withRows(1);
        int[] large = {2, 3, 31, 32, 33, 64, 65, Integer.MAX_VALUE - 1, Integer.MAX_VALUE};
        for (int copy : large) {
            Check.due("torn(" + copy + ", 1)", x.torn(copy, 1), -2);
        }
        Check.dueRefused("torn(2, 1)", x, -2, () -> x.torn(2, 1));
        Check.due("at(1, 5)", x.at(1, 5), 0);
    }

    private static void rowsTooSmall() {
        LogForward x = withRows(1);
        int[] small = {0, -1, -2000, Integer.MIN_VALUE + 1, Integer.MIN_VALUE};
        for (int row : small) {
            Check.due("torn(0, " + row + ")", x.torn(0, row), -2);
            Check.due("torn(1, " + row + ")", x.torn(1, row), -2);
        }
        Check.due("archive(0)", x.archive(0), 0);
        Check.due("row 0 is not archived, either", x.torn(0, 0), -2);
    }

    private static void rowsTooLarge() {
        LogForward x = withRows(2);
        int[] large = {3, 4, 2000, 2001, Integer.MAX_VALUE - 1, Integer.MAX_VALUE};
        for (int row : large) {
            Check.due("torn(0, " + row + ")", x.torn(0, row), -2);
            Check.due("torn(1, " + row + ")", x.torn(1, row), -2);
        }
        Check.due("without rows", new LogForward(1).torn(0, 1), -2);
        Check.countUp(x, 1, 0, 1);
        Check.due("row 3 is whole", x.at(3, 5), 0);
        LogForward y = Check.longLog(2000);
        Check.due("behind a full log", y.torn(0, 2001), -2);
    }

    private static void rowsGone() {
        LogForward x = new LogForward(1);
        Check.images(x, 1);
        Check.countUp(x, 1, 0, 2);
        Check.due("torn(0, 2)", x.torn(0, 2), 1);
        Check.due("recover(1, 0)", x.recover(1, 0), 0);
        Check.due("torn(0, 1)", x.torn(0, 1), -2);
        Check.due("torn(0, 2)", x.torn(0, 2), -2);
        Check.countUp(x, 2, 0, 2);
        Check.due("a new row 2", x.torn(0, 2), 1);
    }

    private static void noCopyOfArchived() {
        LogForward x = withRows(1);
        Check.due("archive(1)", x.archive(1), 1);
        Check.due("torn(2, 1)", x.torn(2, 1), -2);
        Check.due("torn(-1, 1)", x.torn(-1, 1), -2);
    }

    private static void archived() {
        LogForward x = withRows(4);
        Check.due("archive(2)", x.archive(2), 2);
        Check.dueRefused("torn(0, 2)", x, -5, () -> x.torn(0, 2));
        Check.due("torn(1, 2)", x.torn(1, 2), -5);
        Check.due("torn(0, 1)", x.torn(0, 1), -5);
        Check.due("torn(0, 3)", x.torn(0, 3), 1);
        Check.due("archive(3)", x.archive(3), 3);
        Check.due("in the copy that is whole", x.torn(1, 3), -5);
        Check.due("at(3, 5)", x.at(3, 5), 1);
        Check.due("torn(1, 4)", x.torn(1, 4), 1);
    }

    private static void allArchived() {
        LogForward x = Check.longLog(2000);
        Check.due("archive(1999)", x.archive(1999), 1999);
        Check.due("torn(0, 1999)", x.torn(0, 1999), -5);
        Check.due("torn(0, 2000)", x.torn(0, 2000), 1);
        Check.due("archive(2000)", x.archive(2000), 2000);
        Check.due("torn(1, 2000)", x.torn(1, 2000), -5);
        Check.due("torn(1, 2001)", x.torn(1, 2001), -2);
    }

    private static void missing() {
        LogForward x = withRows(2);
        Check.due("torn(0, 1)", x.torn(0, 1), 1);
        Check.due("torn(1, 2)", x.torn(1, 2), 1);
        Check.due("gap(0)", x.gap(0), 0);
        Check.due("ahead()", x.ahead(), true);
        Check.due("torn(0, 2)", x.torn(0, 2), 1);
        Check.due("gap(0)", x.gap(0), 2);
        Check.due("gap(1)", x.gap(1), 0);
        Check.due("ahead()", x.ahead(), false);
    }
}
