/** Promise 15: count. */
public final class Promise15CountTest {

    public static void main(String[] args) {
        Sentences promise = new Sentences("Promise 15: count");
        promise.says("what = 0 rows, 1 images, 2 archived rows, 3 synced units", "none of a new object",
            Promise15CountTest::empty);
        promise.says("what = 0 rows", "2000 of a full log", Promise15CountTest::rows);
        promise.says("1 images", "20, and no more", Promise15CountTest::images);
        promise.says("2 archived rows", "2000 of a full log", Promise15CountTest::archived);
        promise.says("3 synced units", "all 60", Promise15CountTest::synced);
        promise.says("3 synced units", "not those backed out", Promise15CountTest::backedOut);
        promise.says("what = 0 rows, 1 images, 2 archived rows, 3 synced units", "behind a recovery",
            Promise15CountTest::recovered);
        promise.says("what = 0 rows, 1 images, 2 archived rows, 3 synced units", "refused calls count nothing",
            Promise15CountTest::refused);
        promise.says("NONE for others", "too small", Promise15CountTest::tooSmall);
        promise.says("NONE for others", "too large", Promise15CountTest::tooLarge);
        promise.end();
    }

    private static void empty() {
        Check.dueCounts(new LogForward(4), 0, 0, 0, 0);
    }

    private static void rows() {
        LogForward x = Check.longLog(1998);
        Check.due("count(0)", x.count(0), 1998);
        Check.due("row", x.row(2, 5, 0, 1), 1999);
        Check.due("count(0)", x.count(0), 1999);
        Check.due("sync(2)", x.sync(2), 2000);
        Check.due("count(0)", x.count(0), 2000);
        Check.due("row", x.row(3, 5, 1, 2), -1);
        Check.due("count(0)", x.count(0), 2000);
    }

    private static void images() {
        LogForward x = new LogForward(1);
        for (int image = 1; image <= 20; image++) {
            Check.due("copy", x.copy(image % 3 == 0), image);
            Check.due("count(1)", x.count(1), image);
        }
        Check.due("copy(false)", x.copy(false), -1);
        Check.due("count(1)", x.count(1), 20);
    }

    private static void archived() {
        LogForward x = Check.longLog(2000);
        Check.due("count(2)", x.count(2), 0);
        Check.due("archive(2000)", x.archive(2000), 2000);
        Check.due("count(2)", x.count(2), 2000);
        Check.due("archive(7)", x.archive(7), 2000);
        Check.due("count(2)", x.count(2), 2000);
    }

    private static void synced() {
        LogForward x = new LogForward(1);
        for (int unit = 60; unit >= 1; unit--) {
            Check.syncedUnit(x, unit, 31, unit);
            Check.due("count(3)", x.count(3), 61 - unit);
        }
    }

    private static void backedOut() {
        LogForward x = new LogForward(1);
        Check.syncedUnit(x, 1, 0, 5);
        Check.countUp(x, 2, 1, 2);
        Check.dueCounts(x, 4, 0, 0, 1);
        Check.due("backout(2)", x.backout(2), 2);
        Check.dueCounts(x, 7, 0, 0, 1);
    }

    private static void recovered() {
        LogForward x = new LogForward(1);
        Check.images(x, 1);
        Check.syncedUnit(x, 1, 0, 5);
        Check.due("copy(true)", x.copy(true), 2);
        Check.syncedUnit(x, 2, 0, 6);
        Check.due("archive(3)", x.archive(3), 3);
        Check.dueCounts(x, 4, 2, 3, 2);
        Check.due("recover(1, 2)", x.recover(1, 2), 1);
        Check.dueCounts(x, 2, 2, 2, 1);
        Check.due("recover(1, 1)", x.recover(1, 1), 0);
        Check.dueCounts(x, 3, 2, 1, 0);
        Check.due("recover(1, 0)", x.recover(1, 0), 0);
        Check.dueCounts(x, 0, 2, 0, 0);
    }

    private static void refused() {
        LogForward x = new LogForward(1);
        Check.images(x, 1);
        Check.syncedUnit(x, 1, 0, 5);
        Check.due("row", x.row(1, 0, 5, 6), -5);
        Check.due("sync(1)", x.sync(1), -5);
        Check.due("backout(1)", x.backout(1), 0);
        Check.due("archive(3)", x.archive(3), -4);
        Check.due("recover(1, 3)", x.recover(1, 3), -4);
        Check.dueCounts(x, 2, 1, 0, 1);
    }

    private static void tooSmall() {
        LogForward x = new LogForward(1);
        Check.syncedUnit(x, 1, 0, 5);
        int[] small = {-1, -2, -4, Integer.MIN_VALUE + 1, Integer.MIN_VALUE};
        for (int what : small) {
            Check.due("count(" + what + ")", x.count(what), LogForward.NONE);
        }
    }

    private static void tooLarge() {
        LogForward x = new LogForward(1);
        Check.syncedUnit(x, 1, 0, 5);
        int[] large = {4, 5, 32, Integer.MAX_VALUE - 1, Integer.MAX_VALUE};
        for (int what : large) {
            Check.due("count(" + what + ")", x.count(what), LogForward.NONE);
        }
    }
}
