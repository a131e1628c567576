/** Promise 7: backout, with what the terms say of BACKING OUT. */
public final class Promise07BackoutTest {

    public static void main(String[] args) {
        Sentences promise = new Sentences("Promise 7: backout");
        promise.says("A unit is backed out: how many changes", "one, and several", Promise07BackoutTest::changes);
        promise.says("how many changes; -4;", "units too small", Promise07BackoutTest::tooSmall);
        promise.says("how many changes; -4;", "units too large", Promise07BackoutTest::tooLarge);
        promise.says("0 when it isn't open", "it never was", Promise07BackoutTest::neverOpen);
        promise.says("0 when it isn't open", "it is synced", Promise07BackoutTest::synced);
        promise.says("0 when it isn't open", "it is backed out", Promise07BackoutTest::backedOut);
        promise.says("0 when it isn't open", "its rows are gone", Promise07BackoutTest::gone);
        String missing = "-10 minus the latest of its changes that is missing";
        promise.says(missing, "the latest of several", Promise07BackoutTest::latestMissing);
        promise.says(missing, "row 1", Promise07BackoutTest::firstMissing);
        promise.says(missing, "row 2000", Promise07BackoutTest::lastMissing);
        promise.says(missing, "torn in one copy is not missing", Promise07BackoutTest::tornInOneCopy);
        promise.says(missing, "another unit's rows are not its", Promise07BackoutTest::anothersMissing);
        promise.says("NONE when there is no room for all rows", "room for just as many",
            Promise07BackoutTest::justRoom);
        promise.says("NONE when there is no room for all rows", "room for the changes, not for the end",
            Promise07BackoutTest::noRoomForEnd);
        promise.says("NONE when there is no room for all rows", "a full log", Promise07BackoutTest::full);
        promise.says("-4; 0 when it isn't open; -10 minus", "the first of these", Promise07BackoutTest::order);
        promise.term("for its changes, the latest first, the cell becomes what it was before", "its own alone",
            Promise07BackoutTest::latestFirst);
        promise.term("by a row of the unit that says so (before and after the other way round)",
            "numbers of 64 bits", Promise07BackoutTest::otherWayRound);
        promise.term("then an end row", "a row without cell, before and after", Promise07BackoutTest::endRow);
        promise.term("till they are SYNCED or BACKED OUT", "its cells are free", Promise07BackoutTest::over);
        promise.end();
    }

    private static void changes() {
        LogForward x = new LogForward(1);
        Check.countUp(x, 1, 0, 1);
        Check.countUp(x, 60, 1, 3);
        Check.countUp(x, 60, 31, 2);
        Check.due("backout(60)", x.backout(60), 5);
        Check.due("count(0)", x.count(0), 12);
        Check.due("backout(1)", x.backout(1), 1);
        Check.due("count(0)", x.count(0), 14);
        Check.due("none is synced", x.count(3), 0);
        Check.due("get(31)", x.get(31), 0);
    }

    private static void tooSmall() {
        LogForward x = new LogForward(1);
        Check.countUp(x, 1, 0, 1);
        int[] small = {0, -1, -60, Integer.MIN_VALUE + 1, Integer.MIN_VALUE};
        for (int unit : small) {
            Check.due("backout(" + unit + ")", x.backout(unit), -4);
        }
        Check.dueRefused("backout(0)", x, -4, () -> x.backout(0));
        Check.due("backout(1)", x.backout(1), 1);
    }

    private static void tooLarge() {
        LogForward x = new LogForward(1);
        Check.countUp(x, 60, 0, 1);
        int[] large = {61, 62, 2000, Integer.MAX_VALUE - 1, Integer.MAX_VALUE};
        for (int unit : large) {
            Check.due("backout(" + unit + ")", x.backout(unit), -4);
        }
        Check.dueRefused("backout(61)", x, -4, () -> x.backout(61));
        Check.due("backout(60)", x.backout(60), 1);
    }

    private static void neverOpen() {
        LogForward x = new LogForward(1);
        Check.due("backout(1)", x.backout(1), 0);
        Check.due("a change that is refused", x.row(60, 0, 1, 2), 0);
        Check.dueRefused("backout(60)", x, 0, () -> x.backout(60));
        Check.due("it is not over by that", x.row(60, 0, 0, 2), 1);
    }

    private static void synced() {
        LogForward x = new LogForward(1);
        Check.syncedUnit(x, 1, 0, 5);
        Check.dueRefused("backout(1)", x, 0, () -> x.backout(1));
        Check.due("get(0)", x.get(0), 5);
    }

    private static void backedOut() {
        LogForward x = new LogForward(1);
        Check.images(x, 1);
        Check.countUp(x, 1, 0, 2);
        Check.due("backout(1)", x.backout(1), 2);
        Check.dueRefused("backout(1)", x, 0, () -> x.backout(1));
        Check.countUp(x, 2, 0, 1);
        Check.due("recover(1, 6)", x.recover(1, 6), 0);
        Check.due("by a recovery", x.backout(2), 0);
        Check.due("count(0)", x.count(0), 8);
    }

    private static void gone() {
        LogForward x = new LogForward(1);
        Check.images(x, 1);
        Check.countUp(x, 1, 0, 2);
        Check.due("recover(1, 0)", x.recover(1, 0), 0);
        Check.due("backout(1)", x.backout(1), 0);
        Check.countUp(x, 1, 0, 1);
        Check.due("what is gone is not backed out", x.backout(1), 1);
        Check.due("count(0)", x.count(0), 3);
    }

    private static void latestMissing() {
        LogForward x = new LogForward(1);
        Check.countUp(x, 1, 0, 4);
        Check.tearBoth(x, 1);
        Check.tearBoth(x, 3);
        Check.tearBoth(x, 2);
        Check.dueRefused("backout(1)", x, -13, () -> x.backout(1));
        Check.tearBoth(x, 4);
        Check.due("backout(1)", x.backout(1), -14);
        Check.due("it is open", x.sync(1), 5);
    }

    private static void firstMissing() {
        LogForward x = new LogForward(1);
        Check.countUp(x, 1, 0, 2);
        Check.tearBoth(x, 1);
        Check.due("backout(1)", x.backout(1), -11);
        Check.due("get(0)", x.get(0), 2);
        Check.due("count(0)", x.count(0), 2);
    }

    private static void lastMissing() {
        LogForward x = Check.longLog(1998);
        Check.countUp(x, 60, 31, 2);
        Check.tearBoth(x, 1999);
        Check.tearBoth(x, 2000);
        Check.due("backout(60)", x.backout(60), -2010);
        Check.due("get(31)", x.get(31), 2);
    }

    private static void tornInOneCopy() {
        LogForward x = new LogForward(1);
        Check.countUp(x, 1, 0, 2);
        Check.due("torn(0, 1)", x.torn(0, 1), 1);
        Check.due("torn(1, 2)", x.torn(1, 2), 1);
        Check.due("backout(1)", x.backout(1), 2);
        Check.due("get(0)", x.get(0), 0);
        Check.due("the rows of backing out are whole", x.at(3, 5), 0);
    }

    private static void anothersMissing() {
        LogForward x = new LogForward(1);
        Check.countUp(x, 1, 0, 1);
        Check.countUp(x, 2, 1, 1);
        Check.syncedUnit(x, 3, 2, 6);
        for (int row = 2; row <= 4; row++) {
            Check.tearBoth(x, row);
        }
        Check.due("backout(1)", x.backout(1), 1);
        Check.due("backout(2)", x.backout(2), -12);
    }

    private static void justRoom() {
        LogForward x = Check.longLog(1995);
        Check.countUp(x, 2, 5, 2);
        Check.due("two changes and an end", x.backout(2), 2);
        Check.due("count(0)", x.count(0), 2000);
        Check.due("get(5)", x.get(5), 0);
        Check.dueRow(x, 2000, 2, 2, -1, 0, 0, 0, 1);
    }

    private static void noRoomForEnd() {
        LogForward x = Check.longLog(1996);
        Check.countUp(x, 2, 5, 2);
        Check.dueRefused("backout(2)", x, -1, () -> x.backout(2));
        Check.due("it is open", x.sync(2), 1999);
    }

    private static void full() {
        LogForward x = Check.longLog(1998);
        Check.countUp(x, 2, 5, 1);
        Check.countUp(x, 3, 6, 1);
        Check.dueRefused("backout(2)", x, -1, () -> x.backout(2));
        Check.due("backout(3)", x.backout(3), -1);
        Check.due("both are open", x.warm(), 2);
    }

    private static void order() {
        LogForward x = Check.longLog(1998);
        Check.countUp(x, 2, 5, 2);
        Check.due("-4 ahead of NONE", x.backout(61), -4);
        Check.due("-4 ahead of NONE", x.backout(0), -4);
        Check.due("0 ahead of NONE, never open", x.backout(60), 0);
        Check.due("0 ahead of NONE, over", x.backout(1), 0);
        Check.tearBoth(x, 1);
        Check.due("0 ahead of -10", x.backout(1), 0);
        Check.due("NONE", x.backout(2), -1);
        Check.tearBoth(x, 1999);
        Check.due("-10 ahead of NONE", x.backout(2), -2009);
    }

    private static void latestFirst() {
        LogForward x = new LogForward(1);
        Check.due("row", x.row(1, 0, 0, 5), 1);
        Check.due("row", x.row(2, 3, 0, 7), 2);
        Check.due("row", x.row(1, 0, 5, 6), 3);
        Check.due("row", x.row(1, 1, 0, 8), 4);
        Check.due("backout(1)", x.backout(1), 3);
        Check.dueRow(x, 5, 0, 1, 1, 8, 0, 0, 1);
        Check.dueRow(x, 6, 0, 1, 0, 6, 5, 0, 1);
        Check.dueRow(x, 7, 0, 1, 0, 5, 0, 0, 1);
        Check.due("get(0)", x.get(0), 0);
        Check.due("get(1)", x.get(1), 0);
        Check.due("another's stays", x.get(3), 7);
    }

    private static void otherWayRound() {
        LogForward x = new LogForward(1);
        Check.syncedUnit(x, 1, 0, Long.MIN_VALUE);
        Check.due("row", x.row(2, 0, Long.MIN_VALUE, Long.MAX_VALUE), 3);
        Check.due("row", x.row(2, 0, Long.MAX_VALUE, 0x7_8765_4321L), 4);
        Check.due("backout(2)", x.backout(2), 2);
        Check.dueRow(x, 5, 0, 2, 0, 0x8765_4321, -1, 0, 1);
        Check.dueRow(x, 6, 0, 2, 0, -1, 0, 0, 1);
        Check.due("get(0)", x.get(0), Long.MIN_VALUE);
    }

    private static void endRow() {
        LogForward x = new LogForward(1);
        Check.countUp(x, 60, 31, 1);
        Check.due("backout(60)", x.backout(60), 1);
        Check.dueRow(x, 3, 2, 60, -1, 0, 0, 0, 1);
        Check.due("it is the last", x.count(0), 3);
    }

    private static void over() {
        LogForward x = new LogForward(1);
        Check.countUp(x, 1, 0, 1);
        Check.due("backout(1)", x.backout(1), 1);
        Check.due("warm()", x.warm(), 0);
        Check.due("row of 1", x.row(1, 0, 0, 1), -5);
        Check.due("sync(1)", x.sync(1), -5);
        Check.due("row of 2", x.row(2, 0, 0, 1), 4);
    }
}
