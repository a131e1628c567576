/** Promise 14: ahead. */
public final class Promise14AheadTest {

    public static void main(String[] args) {
        LogForward x = new LogForward(1);
        Check.due("no rows", x.ahead(), true);
        Check.due("copy(false)", x.copy(false), 1);
        Check.due("row", x.row(1, 0, 0, 1), 1);
        Check.due("row", x.row(1, 0, 1, 2), 2);
        Check.due("torn(0, 1)", x.torn(0, 1), 1);
        Check.due("torn(1, 2)", x.torn(1, 2), 1);
        Check.due("each row stands in a copy", x.ahead(), true);
        Check.due("torn(0, 2)", x.torn(0, 2), 1);
        Check.due("row 2 is missing", x.ahead(), false);
        Check.due("archive(2)", x.archive(2), 2);
        Check.due("row 2 is missing", x.ahead(), false);
        Check.due("recover(1, 1)", x.recover(1, 1), 0);
        Check.due("it is gone", x.ahead(), true);
        Check.end();
    }
}
