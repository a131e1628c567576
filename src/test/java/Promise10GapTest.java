/** Promise 10: gap. */
public final class Promise10GapTest {

    public static void main(String[] args) {
        LogForward x = new LogForward(1);
        Check.due("gap(0)", x.gap(0), 0);
        for (int row = 1; row <= 6; row++) {
            Check.due("row", x.row(1, 0, row - 1, row), row);
        }
        Check.due("torn(0, 1)", x.torn(0, 1), 1);
        Check.due("torn(1, 3)", x.torn(1, 3), 1);
        Check.due("gap(0)", x.gap(0), 0);
        Check.tearBoth(x, 6);
        Check.tearBoth(x, 2);
        Check.tearBoth(x, 4);
        Check.due("gap(0)", x.gap(0), 2);
        Check.due("gap(1)", x.gap(1), 4);
        Check.due("gap(2)", x.gap(2), 6);
        int[] none = {3, -1, Integer.MIN_VALUE, Integer.MAX_VALUE};
        for (int i : none) {
            Check.due("gap(" + i + ")", x.gap(i), 0);
        }
        Check.due("archive(4)", x.archive(4), 4);
        Check.due("an archived row that is missing stays so", x.gap(1), 4);
        Check.end();
    }
}
