/** Promise 12: at. */
public final class Promise12AtTest {

    public static void main(String[] args) {
        LogForward x = new LogForward(1);
        thrown(x, 1, 0);
        Check.due("row", x.row(7, 9, 0, 0x1_8000_0002L), 1);
        Check.due("row", x.row(7, 9, 0x1_8000_0002L, -3), 2);
        Check.due("sync(7)", x.sync(7), 3);
        Check.due("row", x.row(8, 0, 0, 4), 4);
        Check.due("backout(8)", x.backout(8), 1);
        Check.dueRow(x, 1, 0, 7, 9, 0, 0x8000_0002, 0, 0);
        Check.dueRow(x, 2, 0, 7, 9, 0x8000_0002, -3, 0, 0);
        Check.dueRow(x, 3, 1, 7, -1, 0, 0, 0, 0);
        Check.dueRow(x, 4, 0, 8, 0, 0, 4, 0, 0);
        Check.dueRow(x, 5, 0, 8, 0, 4, 0, 0, 1);
        Check.dueRow(x, 6, 2, 8, -1, 0, 0, 0, 1);
        Check.due("torn(1, 1)", x.torn(1, 1), 1);
        Check.due("torn(0, 3)", x.torn(0, 3), 1);
        Check.tearBoth(x, 2);
        Check.dueRow(x, 1, 0, 7, 9, 0, 0x8000_0002, 2, 0);
        Check.dueRow(x, 2, 0, 7, 9, 0x8000_0002, -3, 3, 0);
        Check.dueRow(x, 3, 1, 7, -1, 0, 0, 1, 0);

        int[] noRow = {0, -1, 7, 2000, 2001, Integer.MIN_VALUE, Integer.MAX_VALUE};
        for (int row : noRow) {
            thrown(x, row, 0);
        }
        int[] noWhat = {-1, 7, Integer.MIN_VALUE, Integer.MAX_VALUE};
        for (int what : noWhat) {
            thrown(x, 1, what);
        }
        Check.due("copy(false)", x.copy(false), 1);
        Check.due("row", x.row(9, 0, 0, 4), 7);
        Check.due("sync(9)", x.sync(9), 8);
        Check.due("recover(1, 6)", x.recover(1, 6), 1);
        thrown(x, 7, 0);
        Check.end();
    }

    private static void thrown(LogForward x, int i, int what) {
        Check.dueThrow("at(" + i + ", " + what + ")", ArrayIndexOutOfBoundsException.class, () -> x.at(i, what));
    }
}
