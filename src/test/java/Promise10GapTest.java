/** Promise 10: gap. */
public final class Promise10GapTest {

    public static void main(String[] args) {
        Sentences promise = new Sentences("Promise 10: gap");
        promise.says("The i-th missing row, from 0 on", "by row numbers, however they were torn",
            Promise10GapTest::byNumbers);
        promise.says("The i-th missing row, from 0 on", "rows 1 and 2000 of a full log", Promise10GapTest::full);
        promise.says("The i-th missing row, from 0 on", "all rows", Promise10GapTest::allRows);
        promise.says("The i-th missing row, from 0 on", "archived ones, too", Promise10GapTest::archived);
        promise.says("0 when there is none", "without rows", Promise10GapTest::empty);
        promise.says("0 when there is none", "i too small", Promise10GapTest::tooSmall);
        promise.says("0 when there is none", "i too large", Promise10GapTest::tooLarge);
        promise.says("0 when there is none", "torn in one copy is not missing", Promise10GapTest::oneCopy);
        promise.says("0 when there is none", "rows that are gone", Promise10GapTest::gone);
        promise.end();
    }

    private static LogForward withRows(int rows) {
        LogForward x = new LogForward(1);
        Check.images(x, 1);
        Check.countUp(x, 1, 0, rows);
        return x;
    }

    private static void byNumbers() {
        LogForward x = withRows(6);
        Check.tearBoth(x, 6);
        Check.due("gap(0)", x.gap(0), 6);
        Check.tearBoth(x, 2);
        Check.tearBoth(x, 4);
        Check.due("gap(0)", x.gap(0), 2);
        Check.due("gap(1)", x.gap(1), 4);
        Check.due("gap(2)", x.gap(2), 6);
        Check.due("gap(3)", x.gap(3), 0);
    }

    private static void full() {
        LogForward x = Check.longLog(2000);
        Check.due("gap(0)", x.gap(0), 0);
        Check.tearBoth(x, 2000);
        Check.due("gap(0)", x.gap(0), 2000);
        Check.tearBoth(x, 1);
        Check.due("gap(0)", x.gap(0), 1);
        Check.due("gap(1)", x.gap(1), 2000);
        Check.due("gap(2)", x.gap(2), 0);
    }

    private static void allRows() {
        LogForward x = withRows(40);
        for (int row = 40; row >= 1; row--) {
            Check.tearBoth(x, row);
        }
        for (int i = 0; i < 40; i++) {
            Check.due("gap(" + i + ")", x.gap(i), i + 1);
        }
        Check.due("gap(40)", x.gap(40), 0);
    }

    private static void archived() {
        LogForward x = withRows(3);
        Check.tearBoth(x, 2);
        Check.due("archive(3)", x.archive(3), 3);
        Check.due("gap(0)", x.gap(0), 2);
    }

    private static void empty() {
        LogForward x = new LogForward(1);
        for (int i = -1; i <= 1; i++) {
            Check.due("gap(" + i + ")", x.gap(i), 0);
        }
    }

    private static void tooSmall() {
        LogForward x = withRows(3);
        Check.tearBoth(x, 1);
        Check.tearBoth(x, 2);
        int[] small = {-1, -2, -2000, Integer.MIN_VALUE + 1, Integer.MIN_VALUE};
        for (int i : small) {
            Check.due("gap(" + i + ")", x.gap(i), 0);
        }
    }

    private static void tooLarge() {
        LogForward x = withRows(3);
        Check.tearBoth(x, 1);
        Check.tearBoth(x, 2);
        int[] large = {2, 3, 1999, 2000, 2001, Integer.MAX_VALUE - 1, Integer.MAX_VALUE};
        for (int i : large) {
            Check.due("gap(" + i + ")", x.gap(i), 0);
        }
    }

    private static void oneCopy() {
        LogForward x = withRows(3);
        Check.due("torn(0, 1)", x.torn(0, 1), 1);
        Check.due("torn(1, 2)", x.torn(1, 2), 1);
        Check.due("torn(1, 3)", x.torn(1, 3), 1);
        Check.due("gap(0)", x.gap(0), 0);
        Check.due("twice in one copy", x.torn(1, 3), 0);
        Check.due("gap(0)", x.gap(0), 0);
    }

    private static void gone() {
        LogForward x = withRows(3);
        Check.tearBoth(x, 3);
        Check.due("recover(1, 2)", x.recover(1, 2), 0);
        Check.due("a new row 3 is there", x.count(0), 5);
        Check.due("gap(0)", x.gap(0), 0);
        Check.tearBoth(x, 4);
        Check.due("recover(1, 0)", x.recover(1, 0), 0);
        Check.due("gap(0)", x.gap(0), 0);
    }
}
