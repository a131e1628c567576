/** Promise 3: sync. */
public final class Promise03SyncTest {

    public static void main(String[] args) {
        Sentences promise = new Sentences("Promise 3: sync");
        promise.says("An open unit's syncpoint: the row's number", "the first and the last unit",
            Promise03SyncTest::number);
        promise.says("the row's number; -4;", "units too small", Promise03SyncTest::tooSmall);
        promise.says("the row's number; -4;", "units too large", Promise03SyncTest::tooLarge);
        promise.says("-5 it isn't open", "it never was", Promise03SyncTest::neverOpen);
        promise.says("-5 it isn't open", "it is synced", Promise03SyncTest::synced);
        promise.says("-5 it isn't open", "it is backed out", Promise03SyncTest::backedOut);
        promise.says("-5 it isn't open", "its rows are gone", Promise03SyncTest::gone);
        promise.says("it isn't open; NONE", "at 1999 rows not, at 2000 so", Promise03SyncTest::full);
        promise.says("-4; -5 it isn't open; NONE", "the first of these", Promise03SyncTest::order);
        promise.term("1 a syncpoint", "a row without cell, before and after", Promise03SyncTest::row);
        promise.term("till they are SYNCED", "it is no longer open, and its cells are free", Promise03SyncTest::over);
        promise.end();
    }

    private static void number() {
        LogForward x = new LogForward(1);
        Check.countUp(x, 1, 0, 1);
        Check.countUp(x, 60, 1, 2);
        Check.due("sync(60)", x.sync(60), 4);
        Check.due("sync(1)", x.sync(1), 5);
        Check.due("count(0)", x.count(0), 5);
        Check.due("count(3)", x.count(3), 2);
    }

    private static void tooSmall() {
        LogForward x = new LogForward(1);
        Check.countUp(x, 1, 0, 1);
        int[] small = {0, -1, -60, Integer.MIN_VALUE + 1, Integer.MIN_VALUE};
        for (int unit : small) {
            Check.due("sync(" + unit + ")", x.sync(unit), -4);
        }
        Check.dueRefused("sync(0)", x, -4, () -> x.sync(0));
    }

    private static void tooLarge() {
        LogForward x = new LogForward(1);
        Check.countUp(x, 60, 0, 1);
        int[] large = {61, 62, 2000, Integer.MAX_VALUE - 1, Integer.MAX_VALUE};
        for (int unit : large) {
            Check.due("sync(" + unit + ")", x.sync(unit), -4);
        }
        Check.dueRefused("sync(61)", x, -4, () -> x.sync(61));
    }

    private static void neverOpen() {
        LogForward x = new LogForward(1);
        Check.due("sync(1)", x.sync(1), -5);
        Check.due("a change that is refused", x.row(60, 0, 1, 2), 0);
        Check.dueRefused("sync(60)", x, -5, () -> x.sync(60));
        Check.due("not by another's change", x.row(59, 0, 0, 2), 1);
        Check.due("sync(60)", x.sync(60), -5);
    }

    private static void synced() {
        LogForward x = new LogForward(1);
        Check.syncedUnit(x, 1, 0, 5);
        Check.dueRefused("sync(1)", x, -5, () -> x.sync(1));
        Check.due("count(3)", x.count(3), 1);
    }

    private static void backedOut() {
        LogForward x = new LogForward(1);
        Check.images(x, 1);
        Check.countUp(x, 1, 0, 1);
        Check.countUp(x, 2, 1, 1);
        Check.due("backout(1)", x.backout(1), 1);
        Check.dueRefused("sync(1)", x, -5, () -> x.sync(1));
        Check.due("recover(1, 4)", x.recover(1, 4), 0);
        Check.due("by a recovery", x.sync(2), -5);
    }

    private static void gone() {
        LogForward x = new LogForward(1);
        Check.images(x, 1);
        Check.countUp(x, 1, 0, 1);
        Check.due("recover(1, 0)", x.recover(1, 0), 0);
        Check.due("sync(1)", x.sync(1), -5);
        Check.countUp(x, 1, 0, 1);
        Check.due("open again", x.sync(1), 2);
    }

    private static void full() {
        LogForward x = Check.longLog(1998);
        Check.countUp(x, 2, 5, 1);
        Check.due("the last row", x.sync(2), 2000);

        LogForward y = Check.longLog(1998);
        Check.countUp(y, 2, 5, 2);
        Check.dueRefused("no room", y, -1, () -> y.sync(2));
        Check.due("it is still open", y.row(3, 5, 2, 3), -3);
    }

    private static void order() {
        LogForward x = Check.longLog(1999);
        Check.countUp(x, 2, 5, 1);
        Check.due("-4 ahead of NONE", x.sync(61), -4);
        Check.due("-4 ahead of NONE", x.sync(0), -4);
        Check.due("-5 ahead of NONE, backed out", x.sync(1), -5);
        Check.due("-5 ahead of NONE, never open", x.sync(60), -5);
        Check.due("NONE", x.sync(2), -1);
    }

    private static void row() {
        LogForward x = new LogForward(1);
        Check.syncedUnit(x, 60, 3, 4);
        Check.dueRow(x, 2, 1, 60, -1, 0, 0, 0, 0);
        Check.due("the cell stays", x.get(3), 4);
    }

    private static void over() {
        LogForward x = new LogForward(1);
        Check.countUp(x, 1, 0, 2);
        Check.due("warm()", x.warm(), 1);
        Check.due("sync(1)", x.sync(1), 3);
        Check.due("warm()", x.warm(), 0);
        Check.due("backout(1)", x.backout(1), 0);
        Check.due("row of 1", x.row(1, 0, 2, 3), -5);
        Check.due("row of 2", x.row(2, 0, 2, 3), 4);
    }
}
