/** Promise 3: sync. */
public final class Promise03SyncTest {

    public static void main(String[] args) {
        LogForward x = new LogForward(2);
        int[] noUnit = {0, -1, 61, Integer.MIN_VALUE, Integer.MAX_VALUE};
        for (int unit : noUnit) {
            Check.due("sync(" + unit + ")", x.sync(unit), -4);
        }
        Check.due("never opened", x.sync(60), -5);
        Check.due("row", x.row(60, 3, 0, 4), 1);
        Check.due("sync(60)", x.sync(60), 2);
        Check.dueRow(x, 2, 1, 60, -1, 0, 0, 0, 0);
        Check.due("get(3)", x.get(3), 4);
        Check.due("over", x.sync(60), -5);
        Check.due("row of 1", x.row(1, 3, 4, 5), 3);
        Check.due("backout(1)", x.backout(1), 1);
        Check.due("backed out", x.sync(1), -5);
        Check.due("count(0)", x.count(0), 5);
        Check.due("count(3)", x.count(3), 1);
        noRoom();
        Check.end();
    }

    private static void noRoom() {
        LogForward x = Check.longLog(1998);
        Check.due("row 1999", x.row(2, 5, 0, 1), 1999);
        Check.due("row 2000", x.row(3, 6, 0, 1), 2000);
        Check.due("no room", x.sync(2), -1);
        Check.due("-5 ahead of NONE", x.sync(1), -5);
        Check.due("-4 ahead of NONE", x.sync(61), -4);
        Check.due("warm()", x.warm(), 2);

        LogForward y = Check.longLog(1998);
        Check.due("row 1999", y.row(2, 5, 0, 1), 1999);
        Check.due("the last row", y.sync(2), 2000);
    }
}
