/** Promise 12: at. */
public final class Promise12AtTest {

    public static void main(String[] args) {
        Sentences promise = new Sentences("Promise 12: at");
        promise.says("what = 0 its kind", "each of 0, 1 and 2", Promise12AtTest::kind);
        promise.term("of KINDS: 0 a change (unit, cell, before, after), 1 a syncpoint, 2 the end of backing out",
            "each whole row", Promise12AtTest::wholeRows);
        promise.says("1 its unit", "the first and the last", Promise12AtTest::unit);
        promise.says("2 its cell", "the first and the last", Promise12AtTest::cell);
        promise.says("(NONE without one)", "a syncpoint and an end", Promise12AtTest::withoutCell);
        promise.says("3, 4 the lowest 32 bits of before and after", "the bits above fall off",
            Promise12AtTest::lowestBits);
        promise.says("(0 without)", "a syncpoint and an end", Promise12AtTest::withoutNumbers);
        promise.says("5 its torn copies as bits", "each of 0, 1, 2 and 3", Promise12AtTest::tornCopies);
        promise.says("6 whether it was written by backing out", "1 or 0", Promise12AtTest::backingOut);
        promise.says("6 whether it was written by backing out", "by a recovery, too", Promise12AtTest::byRecovery);
        String noRow = "ArrayIndexOutOfBoundsException when there is no such row";
        promise.says(noRow, "without rows", Promise12AtTest::empty);
        promise.says(noRow, "too small", Promise12AtTest::rowsTooSmall);
        promise.says(noRow, "too large", Promise12AtTest::rowsTooLarge);
        promise.says(noRow, "behind a full log", Promise12AtTest::full);
        promise.says(noRow, "rows that are gone", Promise12AtTest::gone);
        promise.says("or what is not so", "too small", Promise12AtTest::whatTooSmall);
        promise.says("or what is not so", "too large", Promise12AtTest::whatTooLarge);
        promise.says("or what is not so", "both", Promise12AtTest::neither);
        promise.end();
    }

    /** A change and a syncpoint of unit 1, a change of unit 60, its backing out in two rows. */
    private static LogForward allKinds() {
        LogForward x = new LogForward(1);
        Check.due("row 1", x.row(1, 0, 0, 0x1_8000_0002L), 1);
        Check.due("row 2", x.sync(1), 2);
        Check.due("row 3", x.row(60, 31, 0, -3), 3);
        Check.due("rows 4 and 5", x.backout(60), 1);
        return x;
    }

    private static void dueWhat(LogForward x, int what, int... want) {
        for (int row = 1; row <= want.length; row++) {
            Check.due("at(" + row + ", " + what + ")", x.at(row, what), want[row - 1]);
        }
    }

    private static void kind() {
        dueWhat(allKinds(), 0, 0, 1, 0, 0, 2);
    }

    private static void wholeRows() {
        LogForward x = allKinds();
        Check.dueRow(x, 1, 0, 1, 0, 0, 0x8000_0002, 0, 0);
        Check.dueRow(x, 2, 1, 1, -1, 0, 0, 0, 0);
        Check.dueRow(x, 3, 0, 60, 31, 0, -3, 0, 0);
        Check.dueRow(x, 4, 0, 60, 31, -3, 0, 0, 1);
        Check.dueRow(x, 5, 2, 60, -1, 0, 0, 0, 1);
    }

    private static void unit() {
        dueWhat(allKinds(), 1, 1, 1, 60, 60, 60);
    }

    private static void cell() {
        LogForward x = allKinds();
        Check.due("at(1, 2)", x.at(1, 2), 0);
        Check.due("at(3, 2)", x.at(3, 2), 31);
        Check.due("at(4, 2)", x.at(4, 2), 31);
    }

    private static void withoutCell() {
        LogForward x = allKinds();
        Check.due("at(2, 2)", x.at(2, 2), LogForward.NONE);
        Check.due("at(5, 2)", x.at(5, 2), LogForward.NONE);
    }

    private static void lowestBits() {
        LogForward x = new LogForward(1);
        long[] held = {0, 1L << 31, 1L << 32, (1L << 32) - 1, Long.MIN_VALUE, Long.MAX_VALUE, -1, 0x1_8000_0002L, 7};
        int[] low = {0, Integer.MIN_VALUE, 0, -1, 0, -1, -1, 0x8000_0002, 7};
        for (int k = 1; k < held.length; k++) {
            Check.due("row", x.row(1, 0, held[k - 1], held[k]), k);
            Check.due("at(" + k + ", 3)", x.at(k, 3), low[k - 1]);
            Check.due("at(" + k + ", 4)", x.at(k, 4), low[k]);
        }
    }

    private static void withoutNumbers() {
        LogForward x = allKinds();
        int[] without = {2, 5};
        for (int row : without) {
            Check.due("at(" + row + ", 3)", x.at(row, 3), 0);
            Check.due("at(" + row + ", 4)", x.at(row, 4), 0);
        }
    }

    private static void tornCopies() {
        LogForward x = allKinds();
        Check.due("torn(0, 2)", x.torn(0, 2), 1);
        Check.due("torn(1, 3)", x.torn(1, 3), 1);
        Check.tearBoth(x, 5);
        dueWhat(x, 5, 0, 1, 2, 0, 3);
        Check.due("a missing row is told as before", x.at(5, 0), 2);
        Check.due("archive(5)", x.archive(5), 5);
        dueWhat(x, 5, 0, 1, 2, 0, 3);
    }

    private static void backingOut() {
        dueWhat(allKinds(), 6, 0, 0, 0, 1, 1);
    }

    private static void byRecovery() {
        LogForward x = new LogForward(1);
        Check.images(x, 1);
        Check.syncedUnit(x, 1, 0, 5);
        Check.countUp(x, 2, 1, 1);
        Check.due("recover(1, 3)", x.recover(1, 3), 1);
        dueWhat(x, 6, 0, 0, 0, 1, 1);
        Check.countUp(x, 3, 1, 1);
        Check.due("at(6, 6)", x.at(6, 6), 0);
    }

    private static void empty() {
        LogForward x = new LogForward(1);
        for (int row = -1; row <= 1; row++) {
            thrown(x, row, 0);
        }
    }

    private static void rowsTooSmall() {
        LogForward x = allKinds();
        int[] small = {0, -1, -2000, Integer.MIN_VALUE + 1, Integer.MIN_VALUE};
        for (int row : small) {
            for (int what = 0; what <= 6; what++) {
                thrown(x, row, what);
            }
        }
    }

    private static void rowsTooLarge() {
        LogForward x = allKinds();
        int[] large = {6, 7, 1999, 2000, 2001, 2002, Integer.MAX_VALUE - 1, Integer.MAX_VALUE};
        for (int row : large) {
            for (int what = 0; what <= 6; what++) {
                thrown(x, row, what);
            }
        }
        Check.due("the latest row", x.at(5, 0), 2);
    }

    private static void full() {
        LogForward x = Check.longLog(1998);
        Check.syncedUnit(x, 60, 31, 9);
        Check.dueRow(x, 2000, 1, 60, -1, 0, 0, 0, 0);
        Check.dueRow(x, 1999, 0, 60, 31, 0, 9, 0, 0);
        thrown(x, 2001, 0);
        thrown(x, 0, 0);
    }

    private static void gone() {
        LogForward x = new LogForward(1);
        Check.images(x, 1);
        Check.syncedUnit(x, 1, 0, 5);
        Check.syncedUnit(x, 2, 0, 6);
        Check.due("recover(1, 2)", x.recover(1, 2), 1);
        thrown(x, 3, 0);
        thrown(x, 4, 0);
        Check.due("at(2, 0)", x.at(2, 0), 1);
    }

    private static void whatTooSmall() {
        LogForward x = allKinds();
        int[] small = {-1, -2, Integer.MIN_VALUE + 1, Integer.MIN_VALUE};
        for (int what : small) {
            thrown(x, 1, what);
            thrown(x, 5, what);
        }
    }

    private static void whatTooLarge() {
        LogForward x = allKinds();
        int[] large = {7, 8, 32, Integer.MAX_VALUE - 1, Integer.MAX_VALUE};
        for (int what : large) {
            thrown(x, 1, what);
            thrown(x, 5, what);
        }
        Check.dueRefused("at(1, 7)", x, 0, () -> {
            thrown(x, 1, 7);
            return 0;
        });
    }

    private static void neither() {
        LogForward x = allKinds();
        for (int off : Check.FAR_OFF) {
            thrown(x, off, off);
        }
    }

    private static void thrown(LogForward x, int i, int what) {
        Check.dueThrow("at(" + i + ", " + what + ")", ArrayIndexOutOfBoundsException.class, () -> x.at(i, what));
    }
}
