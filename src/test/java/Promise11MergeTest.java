/** Promise 11: merge. */
public final class Promise11MergeTest {

    public static void main(String[] args) {
        LogForward x = new LogForward(3);
        Check.due("no rows", x.merge(0, 0), 0);
        Check.due("row", x.row(1, 0, 0, 1), 1);
        Check.due("row", x.row(3, 1, 0, 1), 2);
        Check.due("row", x.row(4, 2, 0, 1), 3);
        Check.due("sync(3)", x.sync(3), 4);
        Check.due("backout(4)", x.backout(4), 1);
        Check.due("row", x.row(60, 3, 0, 1), 7);
        int[][] rows = {{2, 4, 7, 0}, {1, 3, 5, 6, 0}, {0}};
        for (int region = 0; region < rows.length; region++) {
            for (int i = 0; i < rows[region].length; i++) {
                Check.due("merge(" + region + ", " + i + ")", x.merge(region, i), rows[region][i]);
            }
        }
        int[] none = {-1, Integer.MIN_VALUE, Integer.MAX_VALUE};
        for (int off : none) {
            Check.due("merge(1, " + off + ")", x.merge(1, off), 0);
            Check.due("merge(" + off + ", 0)", x.merge(off, 0), 0);
        }
        Check.due("region 3", x.merge(3, 0), 0);
        Check.tearBoth(x, 2);
        Check.due("a missing row is a row", x.merge(0, 0), 2);
        Check.end();
    }
}
