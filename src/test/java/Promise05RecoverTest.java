/** Promise 5: recover. */
public final class Promise05RecoverTest {

    public static void main(String[] args) {
        refusals();
        redoAndBackOut();
        againWithinBackingOut();
        byNumbers();
        spoiledImages();
        needed();
        nothingChangesOnRefusal();
        room();
        whatIsGone();
        Check.end();
    }

    private static void refusals() {
        LogForward x = new LogForward(1);
        Check.due("no image", x.recover(1, 0), -2);
        Check.due("row", x.row(1, 0, 0, 1), 1);
        Check.due("copy(false)", x.copy(false), 1);
        int[] noImage = {0, -1, 2, 21, Integer.MIN_VALUE, Integer.MAX_VALUE};
        for (int image : noImage) {
            Check.due("image " + image, x.recover(image, 1), -2);
            Check.due("-2 ahead of -4", x.recover(image, 9), -2);
        }
        long[] noUntil = {0, -1, 2, Long.MIN_VALUE, Long.MAX_VALUE, (1L << 32) + 1};
        for (long until : noUntil) {
            Check.due("until " + until, x.recover(1, until), -4);
        }
        Check.tearBoth(x, 1);
        Check.due("-4 ahead of -10", x.recover(1, 2), -4);
        Check.due("missing", x.recover(1, 1), -11);
    }

    private static void redoAndBackOut() {
        LogForward x = new LogForward(1);
        Check.due("copy(false)", x.copy(false), 1);
        Check.due("row", x.row(1, 0, 0, 5), 1);
        Check.due("row", x.row(2, 1, 0, 6), 2);
        Check.due("row", x.row(2, 1, 6, 7), 3);
        Check.due("sync(1)", x.sync(1), 4);
        Check.due("row", x.row(3, 0, 5, 8), 5);
        Check.due("sync(2)", x.sync(2), 6);
        Check.due("sync(3)", x.sync(3), 7);
        Check.due("count(3)", x.count(3), 3);
        Check.due("recover(1, 7)", x.recover(1, 7), 3);
        Check.due("count(0)", x.count(0), 7);
        Check.due("recover(1, 5)", x.recover(1, 5), 1);
        Check.due("get(0)", x.get(0), 5);
        Check.due("get(1)", x.get(1), 0);
        Check.dueRow(x, 6, 0, 2, 1, 7, 6, 0, 1);
        Check.dueRow(x, 7, 0, 2, 1, 6, 0, 0, 1);
        Check.dueRow(x, 8, 2, 2, -1, 0, 0, 0, 1);
        Check.dueRow(x, 9, 0, 3, 0, 8, 5, 0, 1);
        Check.dueRow(x, 10, 2, 3, -1, 0, 0, 0, 1);
        Check.due("count(0)", x.count(0), 10);
        Check.due("warm()", x.warm(), 0);
        Check.due("2 is over", x.row(2, 4, 0, 1), -5);
        Check.due("recover(1, 10)", x.recover(1, 10), 1);
        Check.due("get(0)", x.get(0), 5);
        Check.due("recover(1, 0)", x.recover(1, 0), 0);
        Check.due("get(0)", x.get(0), 0);
        Check.due("count(0)", x.count(0), 0);
        Check.due("2 is new", x.row(2, 4, 0, 1), 1);
    }

    /** Rows of backing out are brought forward, but never backed out themselves. */
    private static void againWithinBackingOut() {
        LogForward x = new LogForward(1);
        Check.due("copy(false)", x.copy(false), 1);
        Check.due("row", x.row(1, 0, 0, 5), 1);
        Check.due("row", x.row(1, 20, 0, 6), 2);
        Check.due("backout(1)", x.backout(1), 2);
        Check.due("recover(1, 3)", x.recover(1, 3), 0);
        Check.dueRow(x, 3, 0, 1, 20, 6, 0, 0, 1);
        Check.dueRow(x, 4, 0, 1, 20, 6, 0, 0, 1);
        Check.dueRow(x, 5, 0, 1, 0, 5, 0, 0, 1);
        Check.dueRow(x, 6, 2, 1, -1, 0, 0, 0, 1);
        Check.due("count(0)", x.count(0), 6);
        Check.due("get(0)", x.get(0), 0);
        Check.due("get(20)", x.get(20), 0);

        LogForward y = new LogForward(1);
        Check.due("copy(false)", y.copy(false), 1);
        Check.due("row", y.row(1, 0, 0, 5), 1);
        Check.due("backout(1)", y.backout(1), 1);
        Check.due("recover(1, 3)", y.recover(1, 3), 0);
        Check.due("the row of backing out came forward", y.get(0), 0);
        Check.due("count(0)", y.count(0), 3);
    }

    private static void byNumbers() {
        LogForward x = new LogForward(1);
        Check.due("copy(true)", x.copy(true), 1);
        Check.due("row", x.row(60, 0, 0, 5), 1);
        Check.due("row", x.row(2, 1, 0, 6), 2);
        Check.due("row", x.row(1, 2, 0, 7), 3);
        Check.due("recover(1, 3)", x.recover(1, 3), 0);
        int[] units = {60, 2, 1, 1, 1, 2, 2, 60, 60};
        for (int row = 1; row <= units.length; row++) {
            Check.due("at(" + row + ", 1)", x.at(row, 1), units[row - 1]);
        }
        Check.due("count(0)", x.count(0), 9);
    }

    private static void spoiledImages() {
        LogForward x = new LogForward(1);
        Check.due("copy(false)", x.copy(false), 1);
        Check.due("row", x.row(1, 0, 0, 1), 1);
        Check.due("copy(false)", x.copy(false), 2);
        Check.due("row", x.row(1, 0, 1, 2), 2);
        Check.due("copy(false)", x.copy(false), 3);
        Check.due("sync(1)", x.sync(1), 3);
        Check.due("copy(true)", x.copy(true), 4);
        Check.due("recover(1, 1)", x.recover(1, 1), 0);
        Check.due("count(1)", x.count(1), 4);
        Check.due("count(0)", x.count(0), 3);
        Check.due("recover(3, 3)", x.recover(3, 3), -2);
        Check.due("recover(4, 3)", x.recover(4, 3), -2);
        Check.due("row", x.row(2, 0, 0, 9), 4);
        Check.due("recover(3, 4)", x.recover(3, 4), -2);
        Check.due("recover(2, 4)", x.recover(2, 4), 0);
        Check.due("get(0)", x.get(0), 0);
        Check.due("copy(false)", x.copy(false), 5);
        Check.due("recover(5, 6)", x.recover(5, 6), 0);
    }

    private static void needed() {
        LogForward x = new LogForward(1);
        Check.due("row", x.row(1, 0, 0, 1), 1);
        Check.due("row", x.row(2, 1, 0, 1), 2);
        Check.due("sync(2)", x.sync(2), 3);
        Check.due("row", x.row(1, 0, 1, 2), 4);
        Check.due("copy(false)", x.copy(false), 1);
        Check.due("row", x.row(3, 2, 0, 1), 5);
        Check.due("sync(3)", x.sync(3), 6);
        Check.due("sync(1)", x.sync(1), 7);
        Check.tearBoth(x, 2);
        Check.tearBoth(x, 3);
        Check.due("rows up to START of units that are over are not needed", x.recover(1, 7), 3);
        Check.tearBoth(x, 4);
        Check.due("nor those of 1 at 7", x.recover(1, 7), 3);
        Check.due("that of 1 at 6 is", x.recover(1, 6), -14);
        Check.tearBoth(x, 1);
        Check.due("the least", x.recover(1, 6), -11);
        Check.tearBoth(x, 6);
        Check.due("a syncpoint behind START is needed", x.recover(1, 7), -16);
        Check.due("one copy is enough", x.torn(0, 5), 1);
        Check.due("still the same", x.recover(1, 7), -16);
        Check.due("the rest stays", x.count(0), 7);
    }

    private static void nothingChangesOnRefusal() {
        LogForward x = new LogForward(1);
        Check.due("copy(false)", x.copy(false), 1);
        Check.due("row", x.row(1, 0, 0, 1), 1);
        Check.due("copy(false)", x.copy(false), 2);
        Check.due("row", x.row(1, 0, 1, 2), 2);
        Check.due("archive(2)", x.archive(2), 2);
        Check.due("row", x.row(2, 1, 0, 3), 3);
        Check.due("sync(2)", x.sync(2), 4);
        Check.due("archive(1)", x.archive(1), 2);
        Check.tearBoth(x, 3);
        Check.due("recover(1, 3)", x.recover(1, 3), -13);
        Check.due("recover(2, 4)", x.recover(2, 4), -13);
        Check.due("count(0)", x.count(0), 4);
        Check.due("count(1)", x.count(1), 2);
        Check.due("count(2)", x.count(2), 2);
        Check.due("count(3)", x.count(3), 1);
        Check.due("warm()", x.warm(), 1);
        Check.due("get(0)", x.get(0), 2);
        Check.due("get(1)", x.get(1), 3);
        Check.due("1 is open", x.row(1, 0, 2, 4), 5);
        Check.due("image 2 is good", x.recover(2, 2), 0);
    }

    private static void room() {
        LogForward x = Check.longLog(1998);
        Check.due("row 1999", x.row(2, 5, 0, 1), 1999);
        Check.due("no room for two more", x.recover(1, 1999), -1);
        Check.due("get(5)", x.get(5), 1);
        Check.due("warm()", x.warm(), 1);
        Check.due("count(0)", x.count(0), 1999);
        Check.tearBoth(x, 1);
        Check.due("-10 ahead of NONE", x.recover(1, 1999), -11);

        LogForward y = Check.longLog(1997);
        Check.due("row 1998", y.row(2, 5, 0, 1), 1998);
        Check.due("room for just two", y.recover(1, 1998), 0);
        Check.due("count(0)", y.count(0), 2000);
        Check.due("get(5)", y.get(5), 0);
        Check.due("201 rows find no room", y.recover(1, 1996), -1);
        Check.due("count(0)", y.count(0), 2000);
    }

    private static void whatIsGone() {
        LogForward x = new LogForward(2);
        Check.due("copy(false)", x.copy(false), 1);
        Check.due("row", x.row(1, 0, 0, 1), 1);
        Check.due("row", x.row(2, 1, 0, 1), 2);
        Check.due("sync(2)", x.sync(2), 3);
        Check.due("archive(1)", x.archive(1), 1);
        Check.tearBoth(x, 3);
        Check.due("recover(1, 2)", x.recover(1, 2), 0);
        Check.due("a new row 3 is whole", x.at(3, 5), 0);
        Check.due("ahead()", x.ahead(), true);
        Check.due("count(2)", x.count(2), 1);
        Check.due("archive(6)", x.archive(6), 6);
        Check.due("recover(1, 1)", x.recover(1, 1), 0);
        Check.due("count(0)", x.count(0), 3);
        Check.due("archived rows are gone too", x.count(2), 1);
    }
}
