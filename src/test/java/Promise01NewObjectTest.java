/** Promise 1: how many regions there are, and that all else is empty. */
public final class Promise01NewObjectTest {

    public static void main(String[] args) {
        LogForward x = new LogForward(3);
        for (int cell = 0; cell < 32; cell++) {
            Check.due("get(" + cell + ")", x.get(cell), 0);
        }
        for (int what = 0; what <= 3; what++) {
            Check.due("count(" + what + ")", x.count(what), 0);
        }
        Check.due("warm()", x.warm(), 0);
        Check.due("ahead()", x.ahead(), true);

        int[] asked = {Integer.MIN_VALUE, -1, 0, 1, 2, 3, 4, 5, Integer.MAX_VALUE};
        int[] held = {1, 1, 1, 1, 2, 3, 4, 4, 4};
        for (int k = 0; k < asked.length; k++) {
            regionsDue(asked[k], held[k]);
        }
        Check.end();
    }

    /** Units 1 .. 4 write rows 1 .. 4, so the regions show in the rows of each. */
    private static void regionsDue(int asked, int held) {
        LogForward x = new LogForward(asked);
        for (int unit = 1; unit <= 4; unit++) {
            Check.due("row of " + unit, x.row(unit, unit, 0, 1), unit);
        }
        for (int region = 0; region <= 5; region++) {
            int first = region >= held ? 0 : region == 0 ? held : region;
            Check.due("LogForward(" + asked + ").merge(" + region + ", 0)", x.merge(region, 0), first);
        }
    }
}
