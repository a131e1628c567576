/** Promise 2: row. */
public final class Promise02RowTest {

    public static void main(String[] args) {
        Sentences promise = new Sentences("Promise 2: row");
        promise.says("A unit changes a cell: the row's number", "one more each time", Promise02RowTest::numbers);
        promise.says("-4 unit or cell is not so", "units too small", Promise02RowTest::unitsTooSmall);
        promise.says("-4 unit or cell is not so", "units too large", Promise02RowTest::unitsTooLarge);
        promise.says("-4 unit or cell is not so", "cells too small", Promise02RowTest::cellsTooSmall);
        promise.says("-4 unit or cell is not so", "cells too large", Promise02RowTest::cellsTooLarge);
        promise.says("-4 unit or cell is not so", "both", Promise02RowTest::neitherUnitNorCell);
        promise.says("-5 the unit is over", "by its syncpoint", Promise02RowTest::synced);
        promise.says("-5 the unit is over", "by backing out", Promise02RowTest::backedOut);
        promise.says("-5 the unit is over", "by a recovery's backing out", Promise02RowTest::backedOutByRecovery);
        promise.says("-3 another open unit has changed the cell", "not the unit itself", Promise02RowTest::another);
        promise.says("-3 another open unit has changed the cell", "though it holds what it held",
            Promise02RowTest::changedBack);
        promise.says("-3 another open unit has changed the cell", "not one that is over",
            Promise02RowTest::anotherOver);
        promise.says("-3 another open unit has changed the cell", "not one whose rows are gone",
            Promise02RowTest::anotherGone);
        promise.says("0 the cell doesn't hold before", "each of 64 bits counts", Promise02RowTest::notBefore);
        promise.says("NONE when there are 2000 rows", "at 1999 not, at 2000 so", Promise02RowTest::full);
        promise.says("the first of these", "-4 ahead of the others", Promise02RowTest::notSoFirst);
        promise.says("the first of these", "-5 ahead of -3, 0 and NONE", Promise02RowTest::overNext);
        promise.says("the first of these", "-3 ahead of 0 and NONE", Promise02RowTest::anotherNext);
        promise.says("the first of these", "0 ahead of NONE", Promise02RowTest::beforeNext);
        promise.term("CELLS 0 .. 31 hold numbers of 64 bits (0 at first)", "the first, the last, the extremes",
            Promise02RowTest::edgesOfCells);
        promise.term("UNITS are 1 .. 60", "each of them", Promise02RowTest::allUnits);
        promise.term("OPEN from their first change on", "a refused change opens none",
            Promise02RowTest::refusedOpensNone);
        String over = "then they are over (so never open again, unless their rows are gone)";
        promise.term(over, "gone, it is new", Promise02RowTest::newAgain);
        promise.term(over, "its first row is not gone", Promise02RowTest::partlyGone);
        promise.term("ROWS numbered from 1 on, at most 2000", "from 1 on again when all are gone",
            Promise02RowTest::fromOneAgain);
        promise.end();
    }

    private static void numbers() {
        LogForward x = new LogForward(1);
        Check.due("first", x.row(1, 0, 0, 5), 1);
        Check.due("second", x.row(2, 1, 0, 6), 2);
        Check.due("the same cell", x.row(1, 0, 5, 7), 3);
        Check.due("to what it holds", x.row(1, 0, 7, 7), 4);
        Check.due("get(0)", x.get(0), 7);
        Check.due("get(1)", x.get(1), 6);
        Check.dueRow(x, 3, 0, 1, 0, 5, 7, 0, 0);
    }

    private static void unitsTooSmall() {
        LogForward x = new LogForward(1);
        int[] small = {0, -1, -2, -60, Integer.MIN_VALUE + 1, Integer.MIN_VALUE};
        for (int unit : small) {
            Check.due("unit " + unit, x.row(unit, 0, 0, 1), -4);
        }
        Check.dueRefused("unit 0", x, -4, () -> x.row(0, 0, 0, 1));
        Check.due("unit 1", x.row(1, 0, 0, 1), 1);
    }

    private static void unitsTooLarge() {
        LogForward x = new LogForward(1);
        int[] large = {61, 62, 2000, Integer.MAX_VALUE - 1, Integer.MAX_VALUE};
        for (int unit : large) {
            Check.due("unit " + unit, x.row(unit, 0, 0, 1), -4);
        }
        Check.dueRefused("unit 61", x, -4, () -> x.row(61, 0, 0, 1));
        Check.due("unit 60", x.row(60, 0, 0, 1), 1);
    }

    private static void cellsTooSmall() {
        LogForward x = new LogForward(1);
        int[] small = {-1, -2, -32, Integer.MIN_VALUE + 1, Integer.MIN_VALUE};
        for (int cell : small) {
            Check.due("cell " + cell, x.row(1, cell, 0, 1), -4);
        }
        Check.dueRefused("cell -1", x, -4, () -> x.row(1, -1, 0, 1));
        Check.due("cell 0", x.row(1, 0, 0, 1), 1);
    }

    private static void cellsTooLarge() {
        LogForward x = new LogForward(1);
        int[] large = {32, 33, 64, 2000, Integer.MAX_VALUE - 1, Integer.MAX_VALUE};
        for (int cell : large) {
            Check.due("cell " + cell, x.row(1, cell, 0, 1), -4);
        }
        Check.dueRefused("cell 32", x, -4, () -> x.row(1, 32, 0, 1));
        Check.due("cell 31", x.row(1, 31, 0, 1), 1);
    }

    private static void neitherUnitNorCell() {
        LogForward x = new LogForward(1);
        for (int off : Check.FAR_OFF) {
            Check.due("row(" + off + ", " + off + ", ..)", x.row(off, off, 0, 1), -4);
        }
        Check.due("no row", x.count(0), 0);
    }

    private static void synced() {
        LogForward x = new LogForward(1);
        Check.syncedUnit(x, 1, 0, 5);
        Check.dueRefused("another cell", x, -5, () -> x.row(1, 1, 0, 1));
        Check.due("its own cell", x.row(1, 0, 5, 6), -5);
        Check.due("another unit is not over", x.row(2, 0, 5, 6), 3);
    }

    private static void backedOut() {
        LogForward x = new LogForward(1);
        Check.countUp(x, 60, 0, 1);
        Check.due("backout(60)", x.backout(60), 1);
        Check.dueRefused("another cell", x, -5, () -> x.row(60, 1, 0, 1));
        Check.due("its own cell", x.row(60, 0, 0, 6), -5);
        Check.due("another unit is not over", x.row(59, 0, 0, 6), 4);
    }

    private static void backedOutByRecovery() {
        LogForward x = new LogForward(1);
        Check.images(x, 1);
        Check.countUp(x, 1, 0, 1);
        Check.due("recover(1, 1)", x.recover(1, 1), 0);
        Check.due("1 is over", x.row(1, 0, 0, 1), -5);
        Check.due("2 is not", x.row(2, 0, 0, 1), 4);
    }

    private static void another() {
        LogForward x = new LogForward(1);
        Check.due("1 changes 5", x.row(1, 5, 0, 1), 1);
        Check.dueRefused("2 may not", x, -3, () -> x.row(2, 5, 1, 2));
        Check.due("2 may change 4", x.row(2, 4, 0, 1), 2);
        Check.due("and 6", x.row(2, 6, 0, 1), 3);
        Check.due("1 may not change 6", x.row(1, 6, 1, 2), -3);
        Check.due("1 may change 5 again", x.row(1, 5, 1, 2), 4);
        Check.due("60 may not change the last cell", edge(x), -3);
    }

    private static int edge(LogForward x) {
        Check.due("59 changes 31", x.row(59, 31, 0, 1), 5);
        return x.row(60, 31, 1, 2);
    }

    private static void changedBack() {
        LogForward x = new LogForward(1);
        Check.due("1 changes 0", x.row(1, 0, 0, 1), 1);
        Check.due("and back", x.row(1, 0, 1, 0), 2);
        Check.due("2 may not", x.row(2, 0, 0, 1), -3);
        Check.due("1 changes 1 to what it holds", x.row(1, 1, 0, 0), 3);
        Check.due("2 may not", x.row(2, 1, 0, 1), -3);
        Check.due("an earlier change counts behind later ones", x.row(1, 2, 0, 9), 4);
        Check.due("2 may not", x.row(2, 0, 0, 1), -3);
    }

    private static void anotherOver() {
        LogForward x = new LogForward(1);
        Check.due("1 changes 5", x.row(1, 5, 0, 1), 1);
        Check.due("sync(1)", x.sync(1), 2);
        Check.due("2 may now", x.row(2, 5, 1, 2), 3);
        Check.due("3 may not", x.row(3, 5, 2, 3), -3);
        Check.due("backout(2)", x.backout(2), 1);
        Check.due("3 may now", x.row(3, 5, 1, 9), 6);
    }

    private static void anotherGone() {
        LogForward x = new LogForward(1);
        Check.images(x, 1);
        Check.due("1 changes 0", x.row(1, 0, 0, 1), 1);
        Check.due("recover(1, 0)", x.recover(1, 0), 0);
        Check.due("1 is new and changes 1", x.row(1, 1, 0, 1), 1);
        Check.due("2 may change 0", x.row(2, 0, 0, 4), 2);
        Check.due("2 may not change 1", x.row(2, 1, 1, 4), -3);
    }

    private static void notBefore() {
        LogForward x = new LogForward(1);
        long held = 0x1234_5678_8765_4321L;
        Check.dueRefused("1 is not 0", x, 0, () -> x.row(1, 0, 1, 2));
        Check.due("-1 is not 0", x.row(1, 0, -1, 2), 0);
        for (int bit = 0; bit < 64; bit++) {
            Check.due("bit " + bit + " of 0", x.row(1, 0, 1L << bit, 2), 0);
        }
        Check.due("row 1", x.row(1, 0, 0, held), 1);
        for (int bit = 0; bit < 64; bit++) {
            Check.due("bit " + bit, x.row(1, 0, held ^ 1L << bit, 2), 0);
        }
        Check.due("what another cell holds", x.row(1, 1, held, 2), 0);
        Check.due("row 2", x.row(1, 0, held, 2), 2);
        Check.due("no longer", x.row(1, 0, held, 2), 0);
    }

    private static void full() {
        LogForward x = Check.longLog(1999);
        Check.due("row 2000", x.row(2, 5, 0, 1), 2000);
        Check.dueRefused("no room", x, -1, () -> x.row(2, 5, 1, 2));
        Check.due("no room for another unit", x.row(3, 6, 0, 1), -1);
        Check.due("warm()", x.warm(), 1);
        Check.due("rows gone give room", x.recover(1, 1990), LogForward.NONE);
        Check.due("rows gone give room", x.recover(1, 0), 0);
        Check.due("row 1", x.row(2, 5, 0, 1), 1);
    }

    /** A log of 2000 rows in which unit 1 is over and unit 2 is open and has changed cell 5 to 1. */
    private static LogForward fullLog() {
        LogForward x = Check.longLog(1999);
        Check.due("row 2000", x.row(2, 5, 0, 1), 2000);
        return x;
    }

    private static void notSoFirst() {
        LogForward x = new LogForward(1);
        Check.syncedUnit(x, 1, 0, 5);
        Check.due("2 opens", x.row(2, 1, 0, 1), 3);
        Check.due("-4 ahead of -5", x.row(1, 32, 0, 1), -4);
        Check.due("-4 ahead of -5", x.row(1, -1, 0, 1), -4);
        Check.due("-4 ahead of -3", x.row(61, 1, 1, 2), -4);
        Check.due("-4 ahead of -3", x.row(0, 1, 1, 2), -4);
        Check.due("-4 ahead of 0", x.row(61, 2, 1, 2), -4);
        LogForward y = fullLog();
        Check.due("-4 ahead of NONE", y.row(61, 6, 0, 1), -4);
        Check.due("-4 ahead of NONE", y.row(2, 32, 0, 1), -4);
    }

    private static void overNext() {
        LogForward x = new LogForward(1);
        Check.syncedUnit(x, 1, 0, 5);
        Check.due("2 opens", x.row(2, 1, 0, 1), 3);
        Check.due("-5 ahead of -3", x.row(1, 1, 1, 2), -5);
        Check.due("-5 ahead of 0", x.row(1, 2, 1, 2), -5);
        LogForward y = fullLog();
        Check.due("-5 ahead of NONE", y.row(1, 6, 0, 1), -5);
    }

    private static void anotherNext() {
        LogForward x = new LogForward(1);
        Check.due("2 opens", x.row(2, 1, 0, 1), 1);
        Check.due("-3 ahead of 0", x.row(1, 1, 5, 2), -3);
        LogForward y = fullLog();
        Check.due("-3 ahead of NONE", y.row(3, 5, 1, 2), -3);
        Check.due("-3 ahead of both", y.row(3, 5, 7, 2), -3);
    }

    private static void beforeNext() {
        LogForward x = fullLog();
        Check.due("0 ahead of NONE", x.row(2, 5, 0, 2), 0);
        Check.due("of a new unit, too", x.row(3, 6, 1, 2), 0);
        Check.due("else NONE", x.row(2, 5, 1, 2), -1);
    }

    private static void edgesOfCells() {
        LogForward x = new LogForward(1);
        long[] held = {0, Long.MIN_VALUE, Long.MAX_VALUE, -1, 1L << 32, 0xFFFF_FFFFL, 0};
        for (int k = 1; k < held.length; k++) {
            Check.due("cell 0", x.row(1, 0, held[k - 1], held[k]), 2 * k - 1);
            Check.due("get(0)", x.get(0), held[k]);
            Check.due("cell 31", x.row(1, 31, held[k - 1], held[k]), 2 * k);
            Check.due("get(31)", x.get(31), held[k]);
        }
    }

    private static void allUnits() {
        LogForward x = new LogForward(1);
        for (int unit = 1; unit <= 60; unit++) {
            Check.syncedUnit(x, unit, unit % 32, unit);
        }
        for (int unit = 1; unit <= 60; unit++) {
            Check.due("row of " + unit, x.row(unit, 0, 32, 1), -5);
        }
    }

    private static void refusedOpensNone() {
        LogForward x = new LogForward(1);
        Check.due("2 opens", x.row(2, 1, 0, 1), 1);
        Check.due("0", x.row(1, 0, 1, 2), 0);
        Check.due("-3", x.row(1, 1, 1, 2), -3);
        Check.due("-4", x.row(1, 32, 1, 2), -4);
        Check.due("warm()", x.warm(), 1);
        Check.due("sync(1)", x.sync(1), -5);
        Check.due("the refused holds no cell", x.row(2, 0, 0, 3), 2);
        Check.due("1 opens", x.row(1, 2, 0, 1), 3);
        Check.due("warm()", x.warm(), 2);
    }

    private static void newAgain() {
        LogForward x = new LogForward(1);
        Check.images(x, 1);
        Check.syncedUnit(x, 1, 0, 5);
        Check.countUp(x, 2, 1, 1);
        Check.due("backout(2)", x.backout(2), 1);
        Check.due("recover(1, 2)", x.recover(1, 2), 1);
        Check.due("the backed out is new", x.row(2, 1, 0, 7), 3);
        Check.due("the synced is over", x.row(1, 0, 5, 7), -5);
        Check.due("recover(1, 0)", x.recover(1, 0), 0);
        Check.due("the synced is new", x.row(1, 0, 0, 7), 1);
    }

    private static void partlyGone() {
        LogForward x = new LogForward(1);
        Check.images(x, 1);
        Check.syncedUnit(x, 1, 0, 5);
        Check.due("its syncpoint is gone", x.recover(1, 1), 0);
        Check.due("it is backed out, so over", x.row(1, 0, 0, 7), -5);
    }

    private static void fromOneAgain() {
        LogForward x = new LogForward(1);
        Check.images(x, 1);
        Check.countUp(x, 1, 0, 3);
        Check.due("recover(1, 0)", x.recover(1, 0), 0);
        Check.due("row 1", x.row(2, 0, 0, 9), 1);
        Check.dueRow(x, 1, 0, 2, 0, 0, 9, 0, 0);
    }
}
