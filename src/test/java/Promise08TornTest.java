/** Promise 8: torn. */
public final class Promise08TornTest {

    public static void main(String[] args) {
        LogForward x = new LogForward(1);
        Check.due("no rows", x.torn(0, 1), -2);
        Check.due("row", x.row(1, 0, 0, 5), 1);
        Check.due("row", x.row(1, 0, 5, 6), 2);
        int[] noCopy = {-1, 2, 32, Integer.MIN_VALUE, Integer.MAX_VALUE};
        for (int copy : noCopy) {
            Check.due("copy " + copy, x.torn(copy, 1), -2);
        }
        int[] noRow = {0, -1, 3, 2001, Integer.MIN_VALUE, Integer.MAX_VALUE};
        for (int row : noRow) {
            Check.due("row " + row, x.torn(0, row), -2);
        }
        Check.due("torn(1, 2)", x.torn(1, 2), 1);
        Check.due("at(2, 5)", x.at(2, 5), 2);
        Check.due("torn(1, 2)", x.torn(1, 2), 0);
        Check.due("at(2, 5)", x.at(2, 5), 2);
        Check.due("torn(0, 2)", x.torn(0, 2), 1);
        Check.due("at(2, 5)", x.at(2, 5), 3);
        Check.due("torn(0, 2)", x.torn(0, 2), 0);
        Check.due("at(1, 5)", x.at(1, 5), 0);

        Check.due("archive(1)", x.archive(1), 1);
        Check.due("archived", x.torn(0, 1), -5);
        Check.due("archived", x.torn(1, 1), -5);
        Check.due("at(1, 5)", x.at(1, 5), 0);
        Check.due("-2 ahead of -5", x.torn(2, 1), -2);
        Check.due("not archived", x.torn(0, 2), 0);
        Check.due("archive(2)", x.archive(2), 2);
        Check.due("what is archived is refused, torn or not", x.torn(0, 2), -5);
        Check.due("at(2, 5)", x.at(2, 5), 3);
        Check.end();
    }
}
