/** Promise 9: archive. */
public final class Promise09ArchiveTest {

    public static void main(String[] args) {
        LogForward x = new LogForward(1);
        Check.due("archive(0)", x.archive(0), 0);
        Check.due("archive(1)", x.archive(1), -4);
        Check.due("copy(false)", x.copy(false), 1);
        for (int row = 1; row <= 5; row++) {
            Check.due("row", x.row(1, 0, row - 1, row), row);
        }
        int[] notSo = {-1, 6, Integer.MIN_VALUE, Integer.MAX_VALUE};
        for (int n : notSo) {
            Check.due("archive(" + n + ")", x.archive(n), -4);
        }
        Check.due("count(2)", x.count(2), 0);
        Check.due("archive(3)", x.archive(3), 3);
        Check.due("never fewer", x.archive(1), 3);
        Check.due("never fewer", x.archive(0), 3);
        Check.due("count(2)", x.count(2), 3);
        Check.due("torn(0, 3)", x.torn(0, 3), -5);
        Check.due("torn(0, 4)", x.torn(0, 4), 1);
        Check.due("archive(5)", x.archive(5), 5);
        Check.due("recover(1, 2)", x.recover(1, 2), 0);
        Check.due("count(0)", x.count(0), 5);
        Check.due("those that are gone are no longer archived", x.count(2), 2);
        Check.due("archive(0)", x.archive(0), 2);
        Check.due("torn(0, 3)", x.torn(0, 3), 1);
        Check.due("torn(0, 2)", x.torn(0, 2), -5);
        Check.due("archive(5)", x.archive(5), 5);
        Check.end();
    }
}
