/** Promise 4: copy, with what the terms say of START, END and FINISHED. */
public final class Promise04CopyTest {

    public static void main(String[] args) {
        Sentences promise = new Sentences("Promise 4: copy");
        promise.says("An image: its number", "one more each time, of both kinds", Promise04CopyTest::numbers);
        promise.says("NONE when there are 20", "the 20th is made, the 21st is not", Promise04CopyTest::full);
        promise.says("NONE when there are 20", "those that are never good again count",
            Promise04CopyTest::fullOfSpoiled);
        promise.term("IMAGES are numbered from 1 on (at most 20)", "the first and the last can be used",
            Promise04CopyTest::firstAndLast);
        promise.term("START is the number of the latest row then (0 without one)", "0 without a row",
            Promise04CopyTest::startWithoutRow);
        promise.term("START is the number of the latest row then", "the row START itself is in the image",
            Promise04CopyTest::startWithRows);
        promise.term("START is the number of the latest row then", "of a full log 2000",
            Promise04CopyTest::startOfFullLog);
        promise.term("One of a moment has all cells then", "later changes leave it", Promise04CopyTest::ofOneMoment);
        promise.term("(Of one of a moment END is START.)", "not a row later", Promise04CopyTest::endIsStart);
        promise.term("A FUZZY one has cells 0 .. 15 then, the others when it is FINISHED",
            "cells 0, 15, 16 and 31", Promise04CopyTest::bothHalves);
        finishing(promise);
        promise.end();
    }

    private static void finishing(Sentences promise) {
        String fifth = "just behind the fifth row behind START";
        promise.term(fifth, "four rows leave it unfinished", Promise04CopyTest::fourRows);
        promise.term(fifth, "five rows finish it", Promise04CopyTest::fiveRows);
        promise.term(fifth, "the sixth is behind END", Promise04CopyTest::moreRows);
        promise.term(fifth, "START is not row 0", Promise04CopyTest::fiveBehindTwo);
        promise.term(fifth, "the fifth is a syncpoint", Promise04CopyTest::fifthIsSyncpoint);
        promise.term(fifth, "the fifth is the end of backing out", Promise04CopyTest::fifthIsEnd);
        promise.term(fifth, "the fifth is within backing out", Promise04CopyTest::fifthIsWithinBackingOut);
        promise.term(fifth, "refused calls write no row", Promise04CopyTest::refusedCallsCountNot);
        promise.term("ahead of the next copy()", "of one of a moment", Promise04CopyTest::byCopy);
        promise.term("ahead of the next copy()", "of another fuzzy one", Promise04CopyTest::byFuzzyCopy);
        promise.term("ahead of the next copy()", "though it answers NONE", Promise04CopyTest::byRefusedCopy);
        promise.term("or recover()", "its own recovery, at once", Promise04CopyTest::byRecover);
        promise.term("or recover()", "though it is refused", Promise04CopyTest::byRefusedRecover);
        promise.term("END is the latest row then", "START, when no row came behind", Promise04CopyTest::endWithoutRows);
        promise.term("END is the latest row then", "2000, when the log is full ahead of a fifth row",
            Promise04CopyTest::endOfFullLog);
    }

    /** Unit 60 counts cell 31 up. */
    private static void more(LogForward x, int rows) {
        Check.countUp(x, 60, 31, rows);
    }

    private static LogForward withRows(int rows) {
        LogForward x = new LogForward(1);
        more(x, rows);
        return x;
    }

    /** END shows as the least row that a recovery from the image may ask for. */
    private static void dueEnd(LogForward x, int image, int end, int synced) {
        Check.due("recover(" + image + ", " + (end - 1) + ")", x.recover(image, end - 1), -4);
        Check.due("recover(" + image + ", " + end + ")", x.recover(image, end), synced);
    }

    private static void numbers() {
        LogForward x = new LogForward(1);
        Check.due("copy(false)", x.copy(false), 1);
        Check.due("copy(true)", x.copy(true), 2);
        Check.due("copy(true)", x.copy(true), 3);
        Check.due("copy(false)", x.copy(false), 4);
        Check.dueCounts(x, 0, 4, 0, 0);
    }

    private static void full() {
        LogForward x = withRows(1);
        for (int image = 1; image <= 20; image++) {
            Check.due("copy", x.copy(image % 2 == 0), image);
        }
        Check.dueRefused("copy(false)", x, -1, () -> x.copy(false));
        Check.dueRefused("copy(true)", x, -1, () -> x.copy(true));
        Check.due("count(1)", x.count(1), 20);
        Check.due("recover(21, 1)", x.recover(21, 1), -2);
    }

    private static void fullOfSpoiled() {
        LogForward x = new LogForward(1);
        Check.images(x, 1);
        more(x, 1);
        for (int image = 2; image <= 20; image++) {
            Check.due("copy(false)", x.copy(false), image);
        }
        Check.due("recover(1, 0)", x.recover(1, 0), 0);
        Check.due("recover(20, 0)", x.recover(20, 0), -2);
        Check.due("copy(false)", x.copy(false), -1);
        Check.due("count(1)", x.count(1), 20);
    }

    private static void firstAndLast() {
        LogForward x = new LogForward(1);
        Check.images(x, 19);
        Check.syncedUnit(x, 1, 0, 5);
        Check.due("the last", x.copy(false), 20);
        Check.syncedUnit(x, 2, 0, 6);
        Check.due("recover(20, 2)", x.recover(20, 2), 1);
        Check.due("get(0)", x.get(0), 5);
        Check.due("recover(1, 0)", x.recover(1, 0), 0);
        Check.due("get(0)", x.get(0), 0);
    }

    private static void startWithoutRow() {
        LogForward x = new LogForward(1);
        Check.images(x, 1);
        Check.due("recover(1, 0)", x.recover(1, 0), 0);
        Check.due("recover(1, -1)", x.recover(1, -1), -4);
        Check.syncedUnit(x, 1, 0, 5);
        Check.due("row 1 is behind START", x.recover(1, 2), 1);
        Check.due("get(0)", x.get(0), 5);
        Check.tearBoth(x, 1);
        Check.due("so it is needed", x.recover(1, 2), -11);
    }

    private static void startWithRows() {
        LogForward x = new LogForward(1);
        Check.syncedUnit(x, 1, 0, 5);
        Check.images(x, 1);
        Check.syncedUnit(x, 2, 0, 6);
        Check.tearBoth(x, 2);
        Check.due("START is not needed", x.recover(1, 4), 2);
        Check.tearBoth(x, 3);
        Check.due("the row behind it is", x.recover(1, 4), -13);
        Check.due("up to START none is", x.recover(1, 2), 1);
        Check.due("get(0)", x.get(0), 5);
    }

    private static void startOfFullLog() {
        LogForward x = Check.longLog(2000);
        Check.due("copy(false)", x.copy(false), 2);
        Check.due("copy(true)", x.copy(true), 3);
        Check.tearBoth(x, 2000);
        Check.due("recover(2, 1999)", x.recover(2, 1999), -4);
        Check.due("recover(2, 2000)", x.recover(2, 2000), 0);
        Check.due("recover(3, 2000)", x.recover(3, 2000), 0);
        Check.due("from row 0 it is needed", x.recover(1, 2000), -2010);
    }

    private static void ofOneMoment() {
        LogForward x = new LogForward(1);
        int[] cells = {0, 15, 16, 31};
        for (int cell : cells) {
            Check.due("row", x.row(1, cell, 0, 10 + cell) > 0, true);
        }
        Check.due("sync(1)", x.sync(1), 5);
        Check.images(x, 1);
        for (int cell : cells) {
            Check.due("row", x.row(2, cell, 10 + cell, 50 + cell) > 0, true);
        }
        Check.due("sync(2)", x.sync(2), 10);
        Check.due("recover(1, 5)", x.recover(1, 5), 1);
        for (int cell = 0; cell < 32; cell++) {
            boolean changed = cell == 0 || cell == 15 || cell == 16 || cell == 31;
            Check.due("get(" + cell + ")", x.get(cell), changed ? 10 + cell : 0);
        }
    }

    private static void endIsStart() {
        LogForward x = withRows(3);
        Check.images(x, 1);
        more(x, 4);
        Check.due("copy(false)", x.copy(false), 2);
        more(x, 5);
        dueEnd(x, 2, 7, 0);
        dueEnd(x, 1, 3, 0);
        Check.due("count(0)", x.count(0), 7);
    }

    /** Of cells 0, 15, 16 and 31 some change behind START, and some keep what they held ahead of it. */
    private static void bothHalves() {
        LogForward x = new LogForward(1);
        int[] cells = {0, 15, 16, 31};
        for (int cell : cells) {
            Check.due("row", x.row(1, cell, 0, 10 + cell) > 0, true);
        }
        Check.due("sync(1)", x.sync(1), 5);
        Check.due("copy(true)", x.copy(true), 1);
        Check.due("row of 2", x.row(2, 15, 25, 1), 6);
        Check.due("row of 2", x.row(2, 16, 26, 2), 7);
        Check.due("sync(2)", x.sync(2), 8);
        Check.due("copy(false)", x.copy(false), 2);
        Check.due("row of 3", x.row(3, 0, 10, 3), 9);
        Check.due("row of 3", x.row(3, 31, 41, 4), 10);
        Check.due("recover(1, 8)", x.recover(1, 8), 2);
        long[] want = {10, 1, 2, 41};
        for (int k = 0; k < cells.length; k++) {
            Check.due("get(" + cells[k] + ")", x.get(cells[k]), want[k]);
        }
    }

    private static void fourRows() {
        LogForward x = new LogForward(1);
        Check.due("copy(true)", x.copy(true), 1);
        more(x, 4);
        Check.due("it was finished by this", x.recover(1, 3), -4);
        more(x, 3);
        dueEnd(x, 1, 4, 0);
    }

    private static void fiveRows() {
        LogForward x = new LogForward(1);
        Check.due("copy(true)", x.copy(true), 1);
        more(x, 5);
        dueEnd(x, 1, 5, 0);
    }

    private static void moreRows() {
        LogForward x = new LogForward(1);
        Check.due("copy(true)", x.copy(true), 1);
        more(x, 11);
        dueEnd(x, 1, 5, 0);
        Check.due("backed out", x.count(0), 11);
        Check.due("get(31)", x.get(31), 0);
    }

    private static void fiveBehindTwo() {
        LogForward x = withRows(2);
        Check.due("copy(true)", x.copy(true), 1);
        more(x, 9);
        dueEnd(x, 1, 7, 0);
        Check.due("count(0)", x.count(0), 15);
    }

    private static void fifthIsSyncpoint() {
        LogForward x = new LogForward(1);
        Check.due("copy(true)", x.copy(true), 1);
        more(x, 4);
        Check.due("sync(60)", x.sync(60), 5);
        Check.countUp(x, 1, 31, 1);
        dueEnd(x, 1, 5, 1);
        Check.due("get(31)", x.get(31), 4);
    }

    private static void fifthIsEnd() {
        LogForward x = withRows(4);
        Check.due("copy(true)", x.copy(true), 1);
        Check.due("backout(60)", x.backout(60), 4);
        Check.countUp(x, 1, 31, 1);
        dueEnd(x, 1, 9, 0);
        Check.due("count(0)", x.count(0), 9);
    }

    private static void fifthIsWithinBackingOut() {
        LogForward x = withRows(6);
        Check.due("copy(true)", x.copy(true), 1);
        Check.due("backout(60)", x.backout(60), 6);
        Check.due("count(0)", x.count(0), 13);
        dueEnd(x, 1, 11, 0);
        Check.due("count(0)", x.count(0), 18);
        Check.due("get(31)", x.get(31), 0);
    }

    private static void refusedCallsCountNot() {
        LogForward x = withRows(1);
        Check.due("copy(true)", x.copy(true), 1);
        more(x, 3);
        Check.due("row", x.row(60, 31, 0, 1), 0);
        Check.due("row", x.row(1, 31, 4, 1), -3);
        Check.due("sync", x.sync(1), -5);
        Check.due("backout", x.backout(1), 0);
        Check.due("torn", x.torn(2, 1), -2);
        Check.due("archive", x.archive(9), -4);
        more(x, 6);
        dueEnd(x, 1, 6, 0);
    }

    private static void byCopy() {
        LogForward x = withRows(1);
        Check.due("copy(true)", x.copy(true), 1);
        more(x, 2);
        Check.due("copy(false)", x.copy(false), 2);
        more(x, 4);
        dueEnd(x, 1, 3, 0);
    }

    private static void byFuzzyCopy() {
        LogForward x = withRows(1);
        Check.due("copy(true)", x.copy(true), 1);
        more(x, 2);
        Check.due("copy(true)", x.copy(true), 2);
        more(x, 6);
        Check.due("the second ends behind its own fifth row", x.recover(2, 7), -4);
        dueEnd(x, 1, 3, 0);
        Check.due("END of the second was 8", x.recover(2, 8), -2);
    }

    private static void byRefusedCopy() {
        LogForward x = withRows(1);
        Check.images(x, 19);
        Check.due("copy(true)", x.copy(true), 20);
        more(x, 1);
        Check.due("copy(false)", x.copy(false), -1);
        more(x, 2);
        dueEnd(x, 20, 2, 0);
    }

    private static void byRecover() {
        LogForward x = withRows(1);
        Check.due("copy(true)", x.copy(true), 1);
        more(x, 2);
        Check.due("recover(1, 3)", x.recover(1, 3), 0);
        Check.due("get(31)", x.get(31), 0);
        Check.due("count(0)", x.count(0), 7);
        Check.countUp(x, 1, 31, 2);
        dueEnd(x, 1, 3, 0);
    }

    private static void byRefusedRecover() {
        LogForward x = withRows(1);
        Check.due("copy(true)", x.copy(true), 1);
        more(x, 1);
        Check.due("recover(7, 0)", x.recover(7, 0), -2);
        more(x, 2);
        dueEnd(x, 1, 2, 0);
    }

    private static void endWithoutRows() {
        LogForward x = withRows(2);
        Check.due("copy(true)", x.copy(true), 1);
        Check.due("copy(true)", x.copy(true), 2);
        more(x, 2);
        dueEnd(x, 1, 2, 0);
        LogForward y = new LogForward(1);
        Check.due("copy(true)", y.copy(true), 1);
        dueEnd(y, 1, 0, 0);
    }

    private static void endOfFullLog() {
        LogForward x = Check.longLog(1997);
        Check.due("copy(true)", x.copy(true), 2);
        Check.syncedUnit(x, 2, 31, 8);
        Check.countUp(x, 3, 0, 1);
        Check.due("no room for more", x.row(3, 1, 0, 1), -1);
        Check.due("recover(2, 1999)", x.recover(2, 1999), -4);
        Check.due("nor to back 3 out", x.recover(2, 2000), -1);
        Check.due("END is 2000", x.recover(1, 1999), 1);
        Check.due("so it is never good again", x.recover(2, 1999), -2);
    }
}
