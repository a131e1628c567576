/** Promise 14: ahead. */
public final class Promise14AheadTest {

    public static void main(String[] args) {
        Sentences promise = new Sentences("Promise 14: ahead");
        promise.says("Whether no row is missing", "without rows", Promise14AheadTest::empty);
        promise.says("Whether no row is missing", "torn in one copy is not missing", Promise14AheadTest::oneCopy);
        promise.says("Whether no row is missing", "the first row", Promise14AheadTest::first);
        promise.says("Whether no row is missing", "the last row of a full log", Promise14AheadTest::full);
        promise.says("Whether no row is missing", "an archived one", Promise14AheadTest::archived);
        promise.says("Whether no row is missing", "rows that are gone", Promise14AheadTest::gone);
        promise.end();
    }

    private static LogForward withRows(int rows) {
        LogForward x = new LogForward(1);
        Check.images(x, 1);
        Check.countUp(x, 1, 0, rows);
        return x;
    }

    private static void empty() {
        Check.due("ahead()", new LogForward(1).ahead(), true);
    }

    private static void oneCopy() {
        LogForward x = withRows(3);
        Check.due("ahead()", x.ahead(), true);
        Check.due("torn(0, 1)", x.torn(0, 1), 1);
        Check.due("torn(1, 2)", x.torn(1, 2), 1);
        Check.due("ahead()", x.ahead(), true);
        Check.due("torn(0, 2)", x.torn(0, 2), 1);
        Check.due("ahead()", x.ahead(), false);
    }

    private static void first() {
        LogForward x = withRows(3);
        Check.tearBoth(x, 1);
        Check.due("ahead()", x.ahead(), false);
    }

    private static void full() {
        LogForward x = Check.longLog(2000);
        Check.due("ahead()", x.ahead(), true);
        Check.tearBoth(x, 2000);
        Check.due("ahead()", x.ahead(), false);
    }

    private static void archived() {
        LogForward x = withRows(3);
        Check.tearBoth(x, 2);
        Check.due("archive(3)", x.archive(3), 3);
        Check.due("ahead()", x.ahead(), false);
    }

    private static void gone() {
        LogForward x = withRows(3);
        Check.tearBoth(x, 3);
        Check.due("ahead()", x.ahead(), false);
        Check.due("recover(1, 2)", x.recover(1, 2), 0);
        Check.due("a new row 3 is there", x.count(0), 5);
        Check.due("ahead()", x.ahead(), true);
    }
}
