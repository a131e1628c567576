/** Promise 11: merge. */
public final class Promise11MergeTest {

    public static void main(String[] args) {
        Sentences promise = new Sentences("Promise 11: merge");
        String rows = "The number of the i-th row, from 0 on, of a region's units";
        promise.says(rows, "rows of every kind", Promise11MergeTest::everyKind);
        promise.says(rows, "one region has all rows of a full log", Promise11MergeTest::full);
        promise.says(rows, "rows that are torn or archived, too", Promise11MergeTest::tornAndArchived);
        promise.says("0 when there is none", "without rows", Promise11MergeTest::empty);
        promise.says("0 when there is none", "i too small", Promise11MergeTest::tooSmall);
        promise.says("0 when there is none", "i too large", Promise11MergeTest::tooLarge);
        promise.says("0 when there is none", "regions too small", Promise11MergeTest::regionsTooSmall);
        promise.says("0 when there is none", "regions too large", Promise11MergeTest::regionsTooLarge);
        promise.says("0 when there is none", "rows that are gone", Promise11MergeTest::gone);
        promise.term("A unit belongs to REGION unit modulo how many regions there are",
            "units 1 to 60 in 1, 2, 3 and 4 regions", Promise11MergeTest::modulo);
        promise.end();
    }

    /** Three regions: unit 3 and 60 in region 0, units 1 and 4 in region 1, none in region 2. */
    private static LogForward threeRegions() {
        LogForward x = new LogForward(3);
        Check.due("row of 1", x.row(1, 0, 0, 1), 1);
        Check.due("row of 3", x.row(3, 1, 0, 1), 2);
        Check.due("row of 4", x.row(4, 2, 0, 1), 3);
        Check.due("sync(3)", x.sync(3), 4);
        Check.due("backout(4)", x.backout(4), 1);
        Check.due("row of 60", x.row(60, 3, 0, 1), 7);
        return x;
    }

    private static void dueRows(LogForward x, int region, int... want) {
        for (int i = 0; i < want.length; i++) {
            Check.due("merge(" + region + ", " + i + ")", x.merge(region, i), want[i]);
        }
    }

    private static void everyKind() {
        LogForward x = threeRegions();
        dueRows(x, 0, 2, 4, 7, 0);
        dueRows(x, 1, 1, 3, 5, 6, 0);
        dueRows(x, 2, 0);
    }

    private static void full() {
        LogForward x = Check.longLog(2000);
        Check.due("merge(0, 0)", x.merge(0, 0), 1);
        Check.due("merge(0, 1000)", x.merge(0, 1000), 1001);
        Check.due("merge(0, 1999)", x.merge(0, 1999), 2000);
        Check.due("merge(0, 2000)", x.merge(0, 2000), 0);
        Check.due("merge(1, 0)", x.merge(1, 0), 0);
    }

    private static void tornAndArchived() {
        LogForward x = threeRegions();
        Check.tearBoth(x, 2);
        Check.due("torn(0, 4)", x.torn(0, 4), 1);
        Check.due("archive(7)", x.archive(7), 7);
        dueRows(x, 0, 2, 4, 7, 0);
    }

    private static void empty() {
        LogForward x = new LogForward(4);
        for (int region = -1; region <= 5; region++) {
            Check.due("merge(" + region + ", 0)", x.merge(region, 0), 0);
        }
    }

    private static void tooSmall() {
        LogForward x = threeRegions();
        int[] small = {-1, -2, -2000, Integer.MIN_VALUE + 1, Integer.MIN_VALUE};
        for (int i : small) {
            Check.due("merge(0, " + i + ")", x.merge(0, i), 0);
            Check.due("merge(1, " + i + ")", x.merge(1, i), 0);
        }
    }

    private static void tooLarge() {
        LogForward x = threeRegions();
        int[] large = {4, 5, 7, 2000, Integer.MAX_VALUE - 1, Integer.MAX_VALUE};
        for (int i : large) {
            Check.due("merge(0, " + i + ")", x.merge(0, i), 0);
            Check.due("merge(1, " + i + ")", x.merge(1, i), 0);
        }
    }

    /** A modulo of these would wrap round to regions 0, 1 and 2. */
    private static void regionsTooSmall() {
        LogForward x = threeRegions();
        int[] small = {-1, -2, -3, -60, Integer.MIN_VALUE + 1, Integer.MIN_VALUE};
        for (int region : small) {
            Check.due("merge(" + region + ", 0)", x.merge(region, 0), 0);
        }
    }

    private static void regionsTooLarge() {
        LogForward x = threeRegions();
        int[] large = {3, 4, 5, 6, 60, Integer.MAX_VALUE - 1, Integer.MAX_VALUE};
        for (int region : large) {
            Check.due("merge(" + region + ", 0)", x.merge(region, 0), 0);
        }
    }

    private static void gone() {
        LogForward x = new LogForward(2);
        Check.images(x, 1);
        Check.syncedUnit(x, 1, 0, 5);
        Check.syncedUnit(x, 2, 0, 6);
        dueRows(x, 0, 3, 4, 0);
        Check.due("recover(1, 2)", x.recover(1, 2), 1);
        dueRows(x, 0, 0);
        dueRows(x, 1, 1, 2, 0);
    }

    private static void modulo() {
        for (int regions = 1; regions <= 4; regions++) {
            for (int unit = 1; unit <= 60; unit++) {
                LogForward x = new LogForward(regions);
                Check.due("row of " + unit, x.row(unit, 0, 0, 1), 1);
                for (int region = 0; region <= 4; region++) {
                    int want = unit % regions == region ? 1 : 0;
                    Check.due("unit " + unit + ", merge(" + region + ", 0)", x.merge(region, 0), want);
                }
            }
        }
    }
}
