/** Promise 15: count. */
public final class Promise15CountTest {

    public static void main(String[] args) {
        LogForward x = new LogForward(1);
        counts(x, 0, 0, 0, 0);
        Check.due("row", x.row(1, 0, 0, 1), 1);
        counts(x, 1, 0, 0, 0);
        Check.due("copy(false)", x.copy(false), 1);
        counts(x, 1, 1, 0, 0);
        Check.due("sync(1)", x.sync(1), 2);
        counts(x, 2, 1, 0, 1);
        Check.due("copy(true)", x.copy(true), 2);
        Check.due("archive(1)", x.archive(1), 1);
        counts(x, 2, 2, 1, 1);
        Check.due("row", x.row(2, 0, 1, 2), 3);
        Check.due("backout(2)", x.backout(2), 1);
        counts(x, 5, 2, 1, 1);
        Check.due("row", x.row(3, 0, 1, 2), 6);
        Check.due("sync(3)", x.sync(3), 7);
        counts(x, 7, 2, 1, 2);
        Check.due("recover(1, 1)", x.recover(1, 1), 0);
        counts(x, 3, 2, 1, 0);
        int[] others = {-1, 4, Integer.MIN_VALUE, Integer.MAX_VALUE};
        for (int what : others) {
            Check.due("count(" + what + ")", x.count(what), -1);
        }
        Check.end();
    }

    private static void counts(LogForward x, int... want) {
        for (int what = 0; what < want.length; what++) {
            Check.due("count(" + what + ")", x.count(what), want[what]);
        }
    }
}
