/** Promise 1: how many regions a new object has, and that all else is empty. */
public final class Promise01NewObjectTest {

    public static void main(String[] args) {
        Sentences promise = new Sentences("Promise 1: A new object");
        promise.says("So many regions, 1 .. 4", "each of 1, 2, 3 and 4", Promise01NewObjectTest::regions);
        promise.says("numbers outside are held to these", "too few regions", Promise01NewObjectTest::tooFewRegions);
        promise.says("numbers outside are held to these", "too many regions", Promise01NewObjectTest::tooManyRegions);
        promise.says("cells 0", "each of the 32", Promise01NewObjectTest::cells);
        promise.says("no rows", "nothing of a row is there", Promise01NewObjectTest::noRows);
        promise.says("no images", "none to recover from", Promise01NewObjectTest::noImages);
        promise.says("no images", "nor in an object made behind one that has some", Promise01NewObjectTest::second);
        promise.term("OPEN from their first change on", "no unit is open or over", Promise01NewObjectTest::units);
        promise.end();
    }

    private static void regions() {
        for (int logs = 1; logs <= 4; logs++) {
            regionsDue(logs, logs);
        }
    }

    private static void tooFewRegions() {
        int[] few = {0, -1, -4, Integer.MIN_VALUE + 1, Integer.MIN_VALUE};
        for (int logs : few) {
            regionsDue(logs, 1);
        }
    }

    private static void tooManyRegions() {
        int[] many = {5, 6, 8, 60, Integer.MAX_VALUE - 1, Integer.MAX_VALUE};
        for (int logs : many) {
            regionsDue(logs, 4);
        }
    }

    /** Units 1 .. 4 write rows 1 .. 4, so the regions show in the first row of each. */
    private static void regionsDue(int logs, int regions) {
        LogForward x = new LogForward(logs);
        for (int unit = 1; unit <= 4; unit++) {
            Check.due("row of " + unit, x.row(unit, unit, 0, 1), unit);
        }
        for (int region = 0; region <= 5; region++) {
            int first = region >= regions ? 0 : region == 0 ? regions : region;
            Check.due("LogForward(" + logs + ").merge(" + region + ", 0)", x.merge(region, 0), first);
        }
    }

    private static void cells() {
        LogForward x = new LogForward(1);
        for (int cell = 0; cell < 32; cell++) {
            Check.due("get(" + cell + ")", x.get(cell), 0);
        }
    }

    private static void noRows() {
        LogForward x = new LogForward(1);
        Check.dueCounts(x, 0, 0, 0, 0);
        Check.dueNoRow(x, 0);
        Check.dueNoRow(x, 1);
        Check.due("gap(0)", x.gap(0), 0);
        Check.due("merge(0, 0)", x.merge(0, 0), 0);
        Check.due("ahead()", x.ahead(), true);
        Check.due("archive(1)", x.archive(1), -4);
        Check.due("the first row", x.row(1, 0, 0, 1), 1);
    }

    private static void noImages() {
        LogForward x = new LogForward(1);
        Check.due("count(1)", x.count(1), 0);
        Check.due("recover(0, 0)", x.recover(0, 0), -2);
        Check.due("recover(1, 0)", x.recover(1, 0), -2);
        Check.due("the first image", x.copy(false), 1);
    }

    private static void second() {
        LogForward x = new LogForward(4);
        Check.syncedUnit(x, 1, 0, 5);
        Check.images(x, 2);
        Check.due("archive(2)", x.archive(2), 2);
        LogForward y = new LogForward(4);
        Check.dueCounts(y, 0, 0, 0, 0);
        Check.due("get(0)", y.get(0), 0);
        Check.due("recover(1, 0)", y.recover(1, 0), -2);
        Check.due("the unit is not over", y.row(1, 0, 0, 7), 1);
        Check.due("nor is the first object's cell changed", x.get(0), 5);
    }

    private static void units() {
        LogForward x = new LogForward(1);
        Check.due("warm()", x.warm(), 0);
        for (int unit = 1; unit <= 60; unit++) {
            Check.due("sync(" + unit + ")", x.sync(unit), -5);
            Check.due("backout(" + unit + ")", x.backout(unit), 0);
        }
        for (int unit = 1; unit <= 60; unit++) {
            Check.syncedUnit(x, unit, 0, unit);
        }
        Check.due("warm()", x.warm(), 0);
    }
}
