/** Promise 13: warm. */
public final class Promise13WarmTest {

    public static void main(String[] args) {
        Sentences promise = new Sentences("Promise 13: warm");
        promise.says("How many units are open", "none of a new object", Promise13WarmTest::empty);
        promise.says("How many units are open", "the first and the last unit", Promise13WarmTest::firstAndLast);
        promise.says("How many units are open", "as many as there are cells", Promise13WarmTest::oneACell);
        promise.says("How many units are open", "in a full log", Promise13WarmTest::full);
        promise.says("How many units are open", "none when all 60 are over", Promise13WarmTest::allOver);
        promise.term("OPEN from their first change on", "later changes and refused calls count no more",
            Promise13WarmTest::firstChange);
        promise.term("till they are SYNCED or BACKED OUT", "by either", Promise13WarmTest::over);
        promise.term("then all units that are open are backed out", "none behind a recovery",
            Promise13WarmTest::recovered);
        promise.end();
    }

    private static void empty() {
        LogForward x = new LogForward(1);
        Check.due("warm()", x.warm(), 0);
        Check.images(x, 1);
        Check.due("recover(1, 0)", x.recover(1, 0), 0);
        Check.due("warm()", x.warm(), 0);
    }

    private static void firstAndLast() {
        LogForward x = new LogForward(1);
        Check.countUp(x, 1, 0, 1);
        Check.due("warm()", x.warm(), 1);
        Check.countUp(x, 60, 1, 1);
        Check.due("warm()", x.warm(), 2);
    }

    /** Each open unit has changed a cell that no other open one has, so 32 are the most. */
    private static void oneACell() {
        LogForward x = new LogForward(1);
        for (int cell = 0; cell < 32; cell++) {
            Check.due("row", x.row(60 - cell, cell, 0, 1), cell + 1);
            Check.due("warm()", x.warm(), cell + 1);
        }
        for (int cell = 0; cell < 32; cell++) {
            Check.due("row", x.row(1, cell, 1, 2), -3);
        }
        Check.due("warm()", x.warm(), 32);
    }

    private static void full() {
        LogForward x = Check.longLog(1999);
        Check.due("warm()", x.warm(), 0);
        Check.countUp(x, 2, 5, 1);
        Check.due("row", x.row(3, 6, 0, 1), -1);
        Check.due("warm()", x.warm(), 1);
    }

    private static void allOver() {
        LogForward x = new LogForward(1);
        for (int unit = 1; unit <= 60; unit++) {
            Check.syncedUnit(x, unit, 0, unit);
        }
        Check.due("warm()", x.warm(), 0);
        Check.due("row", x.row(1, 0, 60, 1), -5);
        Check.due("warm()", x.warm(), 0);
    }

    private static void firstChange() {
        LogForward x = new LogForward(1);
        Check.countUp(x, 1, 0, 3);
        Check.due("warm()", x.warm(), 1);
        Check.due("row", x.row(2, 0, 3, 4), -3);
        Check.due("row", x.row(2, 5, 1, 2), 0);
        Check.due("row", x.row(2, 32, 1, 2), -4);
        Check.due("sync(2)", x.sync(2), -5);
        Check.due("backout(2)", x.backout(2), 0);
        Check.due("warm()", x.warm(), 1);
    }

    private static void over() {
        LogForward x = new LogForward(1);
        Check.countUp(x, 1, 0, 1);
        Check.countUp(x, 2, 1, 1);
        Check.countUp(x, 3, 2, 1);
        Check.due("sync(1)", x.sync(1), 4);
        Check.due("warm()", x.warm(), 2);
        Check.due("backout(2)", x.backout(2), 1);
        Check.due("warm()", x.warm(), 1);
    }

    private static void recovered() {
        LogForward x = new LogForward(1);
        Check.images(x, 1);
        Check.countUp(x, 1, 0, 1);
        Check.countUp(x, 2, 1, 1);
        Check.due("sync(2)", x.sync(2), 3);
        Check.due("recover(1, 2)", x.recover(1, 2), 0);
        Check.due("warm()", x.warm(), 0);
    }
}
