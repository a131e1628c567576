/** Promise 7: backout. */
public final class Promise07BackoutTest {

    public static void main(String[] args) {
        ordinary();
        refusals();
        missing();
        room();
        Check.end();
    }

    private static void ordinary() {
        LogForward x = new LogForward(1);
        Check.due("row", x.row(1, 0, 0, 5), 1);
        Check.due("row", x.row(2, 3, 0, 7), 2);
        Check.due("row", x.row(1, 0, 5, 6), 3);
        Check.due("row", x.row(1, 1, 0, 1L << 33), 4);
        Check.due("backout(1)", x.backout(1), 3);
        Check.dueRow(x, 5, 0, 1, 1, 0, 0, 0, 1);
        Check.dueRow(x, 6, 0, 1, 0, 6, 5, 0, 1);
        Check.dueRow(x, 7, 0, 1, 0, 5, 0, 0, 1);
        Check.dueRow(x, 8, 2, 1, -1, 0, 0, 0, 1);
        Check.due("count(0)", x.count(0), 8);
        Check.due("get(0)", x.get(0), 0);
        Check.due("get(1)", x.get(1), 0);
        Check.due("get(3)", x.get(3), 7);
        Check.due("warm()", x.warm(), 1);
        Check.due("count(3)", x.count(3), 0);
    }

    private static void refusals() {
        LogForward x = new LogForward(1);
        int[] noUnit = {0, -1, 61, Integer.MIN_VALUE, Integer.MAX_VALUE};
        for (int unit : noUnit) {
            Check.due("backout(" + unit + ")", x.backout(unit), -4);
        }
        Check.due("never opened", x.backout(60), 0);
        Check.due("row", x.row(60, 0, 0, 5), 1);
        Check.due("sync(60)", x.sync(60), 2);
        Check.due("synced", x.backout(60), 0);
        Check.due("row", x.row(1, 0, 5, 6), 3);
        Check.due("backout(1)", x.backout(1), 1);
        Check.due("backed out", x.backout(1), 0);
        Check.due("count(0)", x.count(0), 5);
    }

    private static void missing() {
        LogForward x = new LogForward(1);
        Check.due("row", x.row(1, 0, 0, 5), 1);
        Check.due("row", x.row(1, 0, 5, 6), 2);
        Check.due("row", x.row(1, 0, 6, 7), 3);
        Check.due("row", x.row(2, 1, 0, 7), 4);
        Check.tearBoth(x, 4);
        Check.due("torn(0, 3)", x.torn(0, 3), 1);
        Check.due("torn(1, 2)", x.torn(1, 2), 1);
        Check.tearBoth(x, 1);
        Check.due("the first is missing", x.backout(1), -11);
        Check.due("torn(1, 3)", x.torn(1, 3), 1);
        Check.due("the latest that is missing", x.backout(1), -13);
        Check.due("count(0)", x.count(0), 4);
        Check.due("get(0)", x.get(0), 7);
        Check.due("still open", x.sync(1), 5);

        LogForward y = new LogForward(1);
        Check.due("row", y.row(1, 0, 0, 5), 1);
        Check.due("row", y.row(2, 1, 0, 7), 2);
        Check.tearBoth(y, 2);
        Check.due("torn(0, 1)", y.torn(0, 1), 1);
        Check.due("another's missing row is no bar", y.backout(1), 1);
    }

    private static void room() {
        LogForward x = Check.longLog(1996);
        Check.due("row", x.row(2, 5, 0, 1), 1997);
        Check.due("row", x.row(3, 6, 0, 1), 1998);
        Check.due("row", x.row(2, 5, 1, 2), 1999);
        Check.due("no room", x.backout(2), -1);
        Check.due("get(5)", x.get(5), 2);
        Check.due("count(0)", x.count(0), 1999);
        Check.due("nor for 3", x.backout(3), -1);
        Check.due("0 ahead of NONE", x.backout(4), 0);
        Check.due("-4 ahead of NONE", x.backout(61), -4);
        Check.tearBoth(x, 1997);
        Check.due("-10 ahead of NONE", x.backout(2), -2007);

        LogForward y = Check.longLog(1997);
        Check.due("row", y.row(2, 5, 0, 1), 1998);
        Check.due("just room", y.backout(2), 1);
        Check.due("count(0)", y.count(0), 2000);
    }
}
