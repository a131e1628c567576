/** Promise 2: row. */
public final class Promise02RowTest {

    public static void main(String[] args) {
        ordinary();
        refusals();
        firstOfThem();
        noRoom();
        unitWhoseRowsAreGone();
        Check.end();
    }

    private static void ordinary() {
        LogForward x = new LogForward(1);
        Check.due("first", x.row(1, 0, 0, Long.MIN_VALUE), 1);
        Check.due("get(0)", x.get(0), Long.MIN_VALUE);
        Check.due("again", x.row(1, 0, Long.MIN_VALUE, Long.MAX_VALUE), 2);
        Check.due("get(0)", x.get(0), Long.MAX_VALUE);
        Check.due("last unit and cell", x.row(60, 31, 0, 7), 3);
        Check.due("get(31)", x.get(31), 7);
        Check.due("the same value", x.row(60, 31, 7, 7), 4);
        Check.dueRow(x, 3, 0, 60, 31, 0, 7, 0, 0);
    }

    private static void refusals() {
        LogForward x = new LogForward(1);
        int[] noUnit = {0, -1, 61, Integer.MIN_VALUE, Integer.MAX_VALUE};
        for (int unit : noUnit) {
            Check.due("unit " + unit, x.row(unit, 0, 0, 1), -4);
        }
        int[] noCell = {-1, 32, Integer.MIN_VALUE, Integer.MAX_VALUE};
        for (int cell : noCell) {
            Check.due("cell " + cell, x.row(1, cell, 0, 1), -4);
        }
        Check.due("not before", x.row(1, 0, 1, 2), 0);
        Check.due("only the low bits are the same", x.row(1, 0, 1L << 32, 2), 0);
        Check.due("no row of those", x.count(0), 0);
        Check.due("no unit opened by those", x.warm(), 0);

        Check.due("1 changes 5", x.row(1, 5, 0, 1), 1);
        Check.due("2 may not", x.row(2, 5, 1, 2), -3);
        Check.due("get(5)", x.get(5), 1);
        Check.due("sync(1)", x.sync(1), 2);
        Check.due("1 is over", x.row(1, 6, 0, 1), -5);
        Check.due("2 may now", x.row(2, 5, 1, 2), 3);
        Check.due("backout(2)", x.backout(2), 1);
        Check.due("2 is over", x.row(2, 6, 0, 1), -5);
        Check.due("3 may now", x.row(3, 5, 1, 9), 6);
    }

    private static void firstOfThem() {
        LogForward x = new LogForward(1);
        Check.due("1 opens", x.row(1, 0, 0, 1), 1);
        Check.due("2 opens", x.row(2, 1, 0, 1), 2);
        Check.due("sync(2)", x.sync(2), 3);
        Check.due("-4 ahead of -5", x.row(2, 32, 0, 1), -4);
        Check.due("-5 ahead of -3", x.row(2, 0, 1, 2), -5);
        Check.due("-5 ahead of 0", x.row(2, 2, 5, 2), -5);
        Check.due("-3 ahead of 0", x.row(3, 0, 5, 2), -3);
    }

    private static void noRoom() {
        LogForward x = Check.longLog(1999);
        Check.due("row 2000", x.row(2, 5, 0, 1), 2000);
        Check.due("no room", x.row(2, 5, 1, 2), -1);
        Check.due("no room for another unit", x.row(3, 6, 0, 1), -1);
        Check.due("get(5)", x.get(5), 1);
        Check.due("0 ahead of NONE", x.row(2, 5, 0, 2), 0);
        Check.due("-3 ahead of NONE", x.row(3, 5, 1, 2), -3);
        Check.due("-5 ahead of NONE", x.row(1, 6, 0, 1), -5);
        Check.due("-4 ahead of NONE", x.row(0, 6, 0, 1), -4);
        Check.due("count(0)", x.count(0), 2000);
        Check.due("warm()", x.warm(), 1);
    }

    /** A unit that is new again has changed only what it changes from then on. */
    private static void unitWhoseRowsAreGone() {
        LogForward x = new LogForward(1);
        Check.due("copy(false)", x.copy(false), 1);
        Check.due("1 changes 0", x.row(1, 0, 0, 1), 1);
        Check.due("sync(1)", x.sync(1), 2);
        Check.due("recover(1, 0)", x.recover(1, 0), 0);
        Check.due("1 is new", x.row(1, 1, 0, 1), 1);
        Check.due("2 changes 0", x.row(2, 0, 0, 4), 2);
        Check.due("2 may not change 1", x.row(2, 1, 1, 4), -3);
    }
}
