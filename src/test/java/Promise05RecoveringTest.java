/** Promise 5: recover, with what the terms say of RECOVERING; its answers are in Promise05RecoverTest. */
public final class Promise05RecoveringTest {

    public static void main(String[] args) {
        Sentences promise = new Sentences("Promise 5: recover");
        promise.term("cells become those of the image", "all 32", Promise05RecoveringTest::cellsOfTheImage);
        String redo = "each change among rows behind START up to UNTIL gives its cell what is after";
        promise.term(redo, "UNTIL itself, not the row behind it", Promise05RecoveringTest::redoUpToUntil);
        promise.term(redo, "rows of backing out, too", Promise05RecoveringTest::redoOfBackingOut);
        promise.term(redo, "numbers of 64 bits", Promise05RecoveringTest::redoOfWideNumbers);
        promise.term(redo, "the whole of a full log", Promise05RecoveringTest::redoOfFullLog);
        promise.term("rows behind UNTIL are gone", "none, when UNTIL is the latest row",
            Promise05RecoveringTest::noneGone);
        promise.term("rows behind UNTIL are gone", "all, when UNTIL is 0", Promise05RecoveringTest::allGone);
        promise.term("rows behind UNTIL are gone", "new rows of their numbers are not torn",
            Promise05RecoveringTest::newRowsAreWhole);
        promise.term("rows behind UNTIL are gone", "new rows of their numbers are theirs in nothing",
            Promise05RecoveringTest::newRowsAreNew);
        String images = "images whose END is behind it: they are there, but never good again";
        promise.term(images, "END at UNTIL, and one row behind", Promise05RecoveringTest::imagesBehind);
        promise.term(images, "END counts, START does not", Promise05RecoveringTest::imagesBySpan);
        promise.term(images, "an unfinished one is finished first", Promise05RecoveringTest::unfinishedBehind);
        promise.term(images, "they keep their numbers", Promise05RecoveringTest::imagesAreThere);
        String open = "then all units that are open are backed out, by numbers";
        promise.term(open, "by unit numbers, from 1 to 60", Promise05RecoveringTest::byNumbers);
        promise.term(open, "open at UNTIL, synced behind it", Promise05RecoveringTest::openThen);
        promise.term(open, "changes ahead of START, too", Promise05RecoveringTest::changesAheadOfStart);
        promise.term(open, "none is open behind it", Promise05RecoveringTest::noneOpen);
        promise.term("(Changes that such rows are aren't backed out, and were none of those.)",
            "UNTIL within a backing out", Promise05RecoveringTest::withinBackingOut);
        promise.term("Needed are rows behind START up to UNTIL", "START is not",
            Promise05RecoveringTest::startNotNeeded);
        promise.term("Needed are rows behind START up to UNTIL", "the row behind START is",
            Promise05RecoveringTest::nextNeeded);
        promise.term("Needed are rows behind START up to UNTIL", "UNTIL is, the row behind is not",
            Promise05RecoveringTest::untilNeeded);
        promise.term("Needed are rows behind START up to UNTIL", "rows of every kind",
            Promise05RecoveringTest::allKinds);
        promise.term("Needed are rows behind START up to UNTIL", "a fuzzy image's span, too",
            Promise05RecoveringTest::span);
        promise.term("all changes that are to be backed out: none of them may be missing", "ahead of START, too",
            Promise05RecoveringTest::openNeeded);
        promise.term("all changes that are to be backed out", "not of units that are over",
            Promise05RecoveringTest::overNotNeeded);
        promise.term("all changes that are to be backed out", "of a unit that is synced behind UNTIL",
            Promise05RecoveringTest::syncedBehindNeeded);
        promise.end();
    }

    private static LogForward withImage() {
        LogForward x = new LogForward(1);
        Check.images(x, 1);
        return x;
    }

    private static void cellsOfTheImage() {
        LogForward x = new LogForward(1);
        for (int cell = 0; cell < 32; cell++) {
            Check.due("row", x.row(1, cell, 0, 100 + cell), cell + 1);
        }
        Check.due("sync(1)", x.sync(1), 33);
        Check.images(x, 1);
        for (int cell = 0; cell < 32; cell++) {
            Check.due("row", x.row(2, cell, 100 + cell, 200 + cell), cell + 34);
        }
        Check.due("sync(2)", x.sync(2), 66);
        Check.due("recover(1, 33)", x.recover(1, 33), 1);
        for (int cell = 0; cell < 32; cell++) {
            Check.due("get(" + cell + ")", x.get(cell), 100 + cell);
        }
    }

    private static void redoUpToUntil() {
        LogForward x = withImage();
        Check.syncedUnit(x, 1, 0, 5);
        Check.syncedUnit(x, 2, 0, 6);
        Check.syncedUnit(x, 3, 0, 7);
        Check.due("recover(1, 6)", x.recover(1, 6), 3);
        Check.due("get(0)", x.get(0), 7);
        Check.due("recover(1, 4)", x.recover(1, 4), 2);
        Check.due("get(0)", x.get(0), 6);
        Check.due("row 3 came forward and is backed out", x.recover(1, 3), 1);
        Check.due("get(0)", x.get(0), 5);
        Check.dueRow(x, 4, 0, 2, 0, 6, 5, 0, 1);
    }

    private static void redoOfBackingOut() {
        LogForward x = withImage();
        Check.syncedUnit(x, 1, 0, 5);
        Check.due("row of 2", x.row(2, 0, 5, 6), 3);
        Check.due("backout(2)", x.backout(2), 1);
        Check.due("recover(1, 5)", x.recover(1, 5), 1);
        Check.due("get(0)", x.get(0), 5);
        Check.due("count(0)", x.count(0), 5);
    }

    private static void redoOfWideNumbers() {
        LogForward x = withImage();
        Check.syncedUnit(x, 1, 0, Long.MIN_VALUE);
        Check.syncedUnit(x, 2, 31, Long.MAX_VALUE);
        Check.due("row of 3", x.row(3, 0, Long.MIN_VALUE, 1L << 40), 5);
        Check.due("recover(1, 5)", x.recover(1, 5), 2);
        Check.due("get(0)", x.get(0), Long.MIN_VALUE);
        Check.due("get(31)", x.get(31), Long.MAX_VALUE);
    }

    private static void redoOfFullLog() {
        LogForward x = Check.longLog(1998);
        Check.syncedUnit(x, 2, 31, 9);
        Check.due("recover(1, 2000)", x.recover(1, 2000), 1);
        Check.due("get(0)", x.get(0), 0);
        Check.due("get(31)", x.get(31), 9);
    }

    private static void noneGone() {
        LogForward x = withImage();
        Check.syncedUnit(x, 1, 0, 5);
        Check.due("torn(0, 2)", x.torn(0, 2), 1);
        Check.due("recover(1, 2)", x.recover(1, 2), 1);
        Check.due("count(0)", x.count(0), 2);
        Check.dueRow(x, 1, 0, 1, 0, 0, 5, 0, 0);
        Check.dueRow(x, 2, 1, 1, -1, 0, 0, 1, 0);
    }

    private static void allGone() {
        LogForward x = withImage();
        Check.syncedUnit(x, 1, 0, 5);
        Check.countUp(x, 2, 1, 2);
        Check.due("archive(1)", x.archive(1), 1);
        Check.tearBoth(x, 3);
        Check.due("recover(1, 0)", x.recover(1, 0), 0);
        Check.dueCounts(x, 0, 1, 0, 0);
        Check.dueNoRow(x, 1);
        Check.due("gap(0)", x.gap(0), 0);
        Check.due("merge(0, 0)", x.merge(0, 0), 0);
        Check.due("ahead()", x.ahead(), true);
        Check.due("warm()", x.warm(), 0);
        Check.due("get(0)", x.get(0), 0);
    }

    private static void newRowsAreWhole() {
        LogForward x = withImage();
        Check.syncedUnit(x, 1, 0, 5);
        Check.countUp(x, 2, 1, 3);
        Check.tearBoth(x, 4);
        Check.due("torn(1, 5)", x.torn(1, 5), 1);
        Check.due("torn(0, 3)", x.torn(0, 3), 1);
        Check.due("recover(1, 3)", x.recover(1, 3), 1);
        Check.due("row 3 is not gone", x.at(3, 5), 1);
        Check.due("at(4, 5)", x.at(4, 5), 0);
        Check.due("at(5, 5)", x.at(5, 5), 0);
        Check.due("ahead()", x.ahead(), true);
        Check.due("torn(0, 4)", x.torn(0, 4), 1);
    }

    private static void newRowsAreNew() {
        LogForward x = withImage();
        Check.countUp(x, 1, 0, 1);
        Check.due("backout(1)", x.backout(1), 1);
        Check.dueRow(x, 2, 0, 1, 0, 1, 0, 0, 1);
        Check.due("recover(1, 0)", x.recover(1, 0), 0);
        Check.due("row 1", x.row(2, 9, 0, 4), 1);
        Check.due("row 2", x.row(2, 8, 0, 3), 2);
        Check.due("row 3", x.sync(2), 3);
        Check.dueRow(x, 1, 0, 2, 9, 0, 4, 0, 0);
        Check.dueRow(x, 2, 0, 2, 8, 0, 3, 0, 0);
        Check.dueRow(x, 3, 1, 2, -1, 0, 0, 0, 0);
    }

    private static void imagesBehind() {
        LogForward x = withImage();
        for (int image = 2; image <= 6; image++) {
            Check.countUp(x, 1, 0, 1);
            Check.due("copy(false)", x.copy(false), image);
        }
        Check.due("recover(1, 3)", x.recover(1, 3), 0);
        Check.due("count(0)", x.count(0), 7);
        Check.due("END 4", x.recover(5, 7), -2);
        Check.due("END 5", x.recover(6, 7), -2);
        Check.due("END 3", x.recover(4, 7), 0);
        Check.due("END 2", x.recover(3, 7), 0);
        Check.due("END 0", x.recover(1, 7), 0);
    }

    private static void imagesBySpan() {
        LogForward x = withImage();
        Check.countUp(x, 1, 0, 1);
        Check.due("START 1, END 3", x.copy(true), 2);
        Check.countUp(x, 1, 0, 2);
        Check.due("START 3, END 3", x.copy(false), 3);
        Check.countUp(x, 1, 0, 1);
        Check.due("recover(1, 2)", x.recover(1, 2), 0);
        Check.due("recover(2, 5)", x.recover(2, 5), -2);
        Check.due("recover(3, 5)", x.recover(3, 5), -2);
        Check.due("recover(1, 5)", x.recover(1, 5), 0);
    }

    private static void unfinishedBehind() {
        LogForward x = withImage();
        Check.countUp(x, 1, 0, 1);
        Check.due("copy(true)", x.copy(true), 2);
        Check.countUp(x, 1, 0, 1);
        Check.due("its END is 2", x.recover(1, 1), 0);
        Check.due("recover(2, 3)", x.recover(2, 3), -2);
    }

    private static void imagesAreThere() {
        LogForward x = withImage();
        Check.countUp(x, 1, 0, 1);
        Check.due("copy(false)", x.copy(false), 2);
        Check.due("recover(1, 0)", x.recover(1, 0), 0);
        Check.due("count(1)", x.count(1), 2);
        Check.due("copy(false)", x.copy(false), 3);
        Check.due("recover(2, 0)", x.recover(2, 0), -2);
        Check.due("recover(3, 0)", x.recover(3, 0), 0);
    }

    private static void byNumbers() {
        LogForward x = withImage();
        Check.countUp(x, 60, 0, 1);
        Check.countUp(x, 2, 1, 1);
        Check.countUp(x, 1, 2, 1);
        Check.countUp(x, 60, 3, 1);
        Check.due("recover(1, 4)", x.recover(1, 4), 0);
        Check.dueRow(x, 5, 0, 1, 2, 1, 0, 0, 1);
        Check.dueRow(x, 6, 2, 1, -1, 0, 0, 0, 1);
        Check.dueRow(x, 7, 0, 2, 1, 1, 0, 0, 1);
        Check.dueRow(x, 8, 2, 2, -1, 0, 0, 0, 1);
        Check.dueRow(x, 9, 0, 60, 3, 1, 0, 0, 1);
        Check.dueRow(x, 10, 0, 60, 0, 1, 0, 0, 1);
        Check.dueRow(x, 11, 2, 60, -1, 0, 0, 0, 1);
        Check.due("count(0)", x.count(0), 11);
    }

    private static void openThen() {
        LogForward x = withImage();
        Check.due("row of 1", x.row(1, 0, 0, 5), 1);
        Check.due("row of 2", x.row(2, 1, 0, 6), 2);
        Check.due("sync(1)", x.sync(1), 3);
        Check.due("sync(2)", x.sync(2), 4);
        Check.due("recover(1, 3)", x.recover(1, 3), 1);
        Check.due("1 stays", x.get(0), 5);
        Check.due("2 is backed out", x.get(1), 0);
        Check.due("count(0)", x.count(0), 5);
        Check.dueRow(x, 4, 0, 2, 1, 6, 0, 0, 1);
    }

    private static void changesAheadOfStart() {
        LogForward x = new LogForward(1);
        Check.countUp(x, 1, 0, 2);
        Check.images(x, 1);
        Check.countUp(x, 1, 0, 1);
        Check.due("recover(1, 3)", x.recover(1, 3), 0);
        Check.due("all three are backed out", x.count(0), 7);
        Check.due("get(0)", x.get(0), 0);
        Check.dueRow(x, 6, 0, 1, 0, 1, 0, 0, 1);
    }

    private static void noneOpen() {
        LogForward x = withImage();
        for (int unit = 1; unit <= 32; unit++) {
            Check.due("row", x.row(unit, unit - 1, 0, 1), unit);
        }
        Check.due("recover(1, 32)", x.recover(1, 32), 0);
        Check.due("warm()", x.warm(), 0);
        Check.due("count(0)", x.count(0), 96);
        for (int unit = 1; unit <= 32; unit++) {
            Check.due("get(" + (unit - 1) + ")", x.get(unit - 1), 0);
            Check.due("row of " + unit, x.row(unit, 0, 0, 1), -5);
        }
    }

    /** Rows of backing out come forward, but are never backed out themselves. */
    private static void withinBackingOut() {
        LogForward x = withImage();
        Check.due("row", x.row(1, 0, 0, 5), 1);
        Check.due("row", x.row(1, 20, 0, 6), 2);
        Check.due("backout(1)", x.backout(1), 2);
        Check.due("recover(1, 3)", x.recover(1, 3), 0);
        Check.dueRow(x, 3, 0, 1, 20, 6, 0, 0, 1);
        Check.dueRow(x, 4, 0, 1, 20, 6, 0, 0, 1);
        Check.dueRow(x, 5, 0, 1, 0, 5, 0, 0, 1);
        Check.dueRow(x, 6, 2, 1, -1, 0, 0, 0, 1);
        Check.due("count(0)", x.count(0), 6);
        Check.due("get(0)", x.get(0), 0);
        Check.due("get(20)", x.get(20), 0);
    }

    private static void startNotNeeded() {
        LogForward x = new LogForward(1);
        Check.syncedUnit(x, 1, 0, 5);
        Check.images(x, 1);
        Check.syncedUnit(x, 2, 1, 6);
        Check.tearBoth(x, 1);
        Check.tearBoth(x, 2);
        Check.due("recover(1, 4)", x.recover(1, 4), 2);
        Check.due("get(0)", x.get(0), 5);
    }

    private static void nextNeeded() {
        LogForward x = new LogForward(1);
        Check.syncedUnit(x, 1, 0, 5);
        Check.images(x, 1);
        Check.syncedUnit(x, 2, 1, 6);
        Check.tearBoth(x, 3);
        Check.due("recover(1, 4)", x.recover(1, 4), -13);
        Check.due("recover(1, 3)", x.recover(1, 3), -13);
        Check.due("recover(1, 2)", x.recover(1, 2), 1);
    }

    private static void untilNeeded() {
        LogForward x = withImage();
        Check.syncedUnit(x, 1, 0, 5);
        Check.syncedUnit(x, 2, 1, 6);
        Check.tearBoth(x, 4);
        Check.due("recover(1, 4)", x.recover(1, 4), -14);
        Check.due("recover(1, 3)", x.recover(1, 3), 1);
        Check.due("ahead()", x.ahead(), true);
    }

    private static void allKinds() {
        LogForward x = withImage();
        Check.syncedUnit(x, 1, 0, 5);
        Check.countUp(x, 2, 1, 1);
        Check.due("backout(2)", x.backout(2), 1);
        Check.tearBoth(x, 5);
        Check.due("an end", x.recover(1, 5), -15);
        Check.tearBoth(x, 4);
        Check.due("a row of backing out", x.recover(1, 5), -14);
        Check.tearBoth(x, 3);
        Check.due("a change that is backed out", x.recover(1, 5), -13);
        Check.tearBoth(x, 2);
        Check.due("a syncpoint", x.recover(1, 5), -12);
        Check.tearBoth(x, 1);
        Check.due("a change", x.recover(1, 5), -11);
    }

    private static void span() {
        LogForward x = new LogForward(1);
        Check.syncedUnit(x, 1, 0, 5);
        Check.due("copy(true)", x.copy(true), 1);
        Check.syncedUnit(x, 2, 20, 6);
        Check.due("copy(false)", x.copy(false), 2);
        Check.tearBoth(x, 3);
        Check.due("from START, not from END", x.recover(1, 4), -13);
        Check.due("recover(2, 4)", x.recover(2, 4), 2);
    }

    private static void openNeeded() {
        LogForward x = new LogForward(1);
        Check.countUp(x, 1, 0, 2);
        Check.images(x, 1);
        Check.tearBoth(x, 2);
        Check.due("recover(1, 2)", x.recover(1, 2), -12);
        Check.tearBoth(x, 1);
        Check.due("the least", x.recover(1, 2), -11);
        Check.due("get(0)", x.get(0), 2);
        Check.due("warm()", x.warm(), 1);
    }

    private static void overNotNeeded() {
        LogForward x = new LogForward(1);
        Check.syncedUnit(x, 1, 0, 5);
        Check.countUp(x, 2, 1, 1);
        Check.due("backout(2)", x.backout(2), 1);
        Check.images(x, 1);
        for (int row = 1; row <= 5; row++) {
            Check.tearBoth(x, row);
        }
        Check.due("recover(1, 5)", x.recover(1, 5), 1);
        Check.due("get(0)", x.get(0), 5);
        Check.due("get(1)", x.get(1), 0);
    }

    private static void syncedBehindNeeded() {
        LogForward x = new LogForward(1);
        Check.countUp(x, 1, 0, 1);
        Check.images(x, 1);
        Check.syncedUnit(x, 2, 1, 6);
        Check.due("sync(1)", x.sync(1), 4);
        Check.tearBoth(x, 1);
        Check.due("it is over at 4", x.recover(1, 4), 2);
        Check.due("it is open at 3", x.recover(1, 3), -11);
    }
}
