/** What it is: each thing that it names, in an ordinary run, and how many calls an object is good for. */
public final class WhatItIsTest {

    /** Of a recovery of ordinary() to each row from 0 on: the synced units, then cells 0, 20 and 31. */
    private static final int[][] RECOVERED = {
        {0, 0, 0, 0}, {0, 0, 0, 0}, {0, 0, 0, 0}, {1, 5, 0, 0}, {1, 5, 0, 0}, {1, 5, 0, 0}, {2, 5, 7, 0},
        {2, 5, 7, 0}, {2, 5, 7, 0}, {2, 5, 7, 0}, {2, 5, 7, 0}, {3, 5, 8, 0},
    };

    public static void main(String[] args) {
        Sentences section = new Sentences("What it is");
        section.says("Cells changed by units of work under a log written ahead, in two copies",
            "each change has its row", WhatItIsTest::changes);
        section.says("syncpoints", "units 1, 2 and 4", WhatItIsTest::syncpoints);
        section.says("backing out by rows that are written too", "unit 3", WhatItIsTest::backingOut);
        section.says("images of one moment and fuzzy ones with their span", "behind each of rows 1 to 7",
            WhatItIsTest::images);
        section.says("recovery forward to any row", "each of them", WhatItIsTest::recovery);
        section.says("rows torn in one copy or both", "each row", WhatItIsTest::torn);
        section.says("archives", "of each length", WhatItIsTest::archives);
        section.says("logs by region", "two regions", WhatItIsTest::regions);
        String calls = "An object is used for at most 512 calls after it has been made";
        section.says(calls, "512 rows", WhatItIsTest::rows);
        section.says(calls, "the 512th call, each that changes something", WhatItIsTest::lastChange);
        section.says(calls, "the 512th call, each that reads", WhatItIsTest::lastRead);
        section.end();
    }

    /** Image 1 of row 0, then 11 rows: units 1, 2 and 4 are synced, unit 3 is backed out. */
    private static LogForward ordinary() {
        LogForward x = new LogForward(2);
        Check.due("copy(false)", x.copy(false), 1);
        for (int step = 1; step <= 9; step++) {
            ordinaryStep(x, step);
        }
        return x;
    }

    private static void ordinaryStep(LogForward x, int step) {
        switch (step) {
            case 1 -> Check.due("row(1, 0, 0, 5)", x.row(1, 0, 0, 5), 1);
            case 2 -> Check.due("row(2, 20, 0, 7)", x.row(2, 20, 0, 7), 2);
            case 3 -> Check.due("sync(1)", x.sync(1), 3);
            case 4 -> Check.due("row(3, 0, 5, 9)", x.row(3, 0, 5, 9), 4);
            case 5 -> Check.due("row(3, 31, 0, 1)", x.row(3, 31, 0, 1), 5);
            case 6 -> Check.due("sync(2)", x.sync(2), 6);
            case 7 -> Check.due("row(4, 20, 7, 8)", x.row(4, 20, 7, 8), 7);
            case 8 -> Check.due("backout(3)", x.backout(3), 2);
            default -> Check.due("sync(4)", x.sync(4), 11);
        }
    }

    private static void dueRecovered(LogForward x, int image, int until) {
        int[] want = RECOVERED[until];
        Check.due("recover(" + image + ", " + until + ")", x.recover(image, until), want[0]);
        Check.due("get(0) at " + until, x.get(0), want[1]);
        Check.due("get(20) at " + until, x.get(20), want[2]);
        Check.due("get(31) at " + until, x.get(31), want[3]);
        Check.due("warm() at " + until, x.warm(), 0);
        Check.due("count(3) at " + until, x.count(3), want[0]);
    }

    private static void changes() {
        LogForward x = ordinary();
        Check.dueRow(x, 1, 0, 1, 0, 0, 5, 0, 0);
        Check.dueRow(x, 2, 0, 2, 20, 0, 7, 0, 0);
        Check.dueRow(x, 4, 0, 3, 0, 5, 9, 0, 0);
        Check.dueRow(x, 5, 0, 3, 31, 0, 1, 0, 0);
        Check.dueRow(x, 7, 0, 4, 20, 7, 8, 0, 0);
        Check.dueCounts(x, 11, 1, 0, 3);
        Check.due("get(0)", x.get(0), 5);
        Check.due("get(20)", x.get(20), 8);
        Check.due("get(31)", x.get(31), 0);
    }

    private static void syncpoints() {
        LogForward x = ordinary();
        Check.dueRow(x, 3, 1, 1, -1, 0, 0, 0, 0);
        Check.dueRow(x, 6, 1, 2, -1, 0, 0, 0, 0);
        Check.dueRow(x, 11, 1, 4, -1, 0, 0, 0, 0);
    }

    private static void backingOut() {
        LogForward x = ordinary();
        Check.dueRow(x, 8, 0, 3, 31, 1, 0, 0, 1);
        Check.dueRow(x, 9, 0, 3, 0, 9, 5, 0, 1);
        Check.dueRow(x, 10, 2, 3, -1, 0, 0, 0, 1);
    }

    /** An image behind each step; a fuzzy one's span ends five rows later, or with the last row. */
    private static void images() {
        for (int behind = 1; behind <= 7; behind++) {
            for (int until = behind; until <= 11; until++) {
                dueRecovered(withImage(behind, false), 2, until);
            }
            int end = Math.min(11, behind + 5);
            Check.due("ahead of END", withImage(behind, true).recover(2, end - 1), -4);
            for (int until = end; until <= 11; until++) {
                dueRecovered(withImage(behind, true), 2, until);
            }
        }
    }

    private static LogForward withImage(int behind, boolean fuzzy) {
        LogForward x = new LogForward(2);
        Check.due("copy(false)", x.copy(false), 1);
        for (int step = 1; step <= 9; step++) {
            ordinaryStep(x, step);
            if (step == behind) {
                Check.due("copy(" + fuzzy + ")", x.copy(fuzzy), 2);
            }
        }
        return x;
    }

    private static void recovery() {
        for (int until = 0; until <= 11; until++) {
            dueRecovered(ordinary(), 1, until);
        }
    }

    private static void torn() {
        for (int row = 1; row <= 11; row++) {
            for (int copy = 0; copy <= 1; copy++) {
                LogForward one = ordinary();
                Check.due("torn(" + copy + ", " + row + ")", one.torn(copy, row), 1);
                Check.due("at(" + row + ", 5)", one.at(row, 5), copy + 1);
                Check.due("ahead()", one.ahead(), true);
                dueRecovered(one, 1, 11);
            }
            LogForward both = ordinary();
            Check.tearBoth(both, row);
            Check.due("gap(0)", both.gap(0), row);
            Check.due("ahead()", both.ahead(), false);
            Check.due("recover(1, 11)", both.recover(1, 11), -10 - row);
            dueRecovered(both, 1, row - 1);
        }
    }

    private static void archives() {
        for (int n = 0; n <= 11; n++) {
            LogForward x = ordinary();
            Check.due("archive(" + n + ")", x.archive(n), n);
            for (int row = 1; row <= 11; row++) {
                Check.due("torn(1, " + row + ")", x.torn(1, row), row <= n ? -5 : 1);
            }
            dueRecovered(x, 1, 11);
            Check.due("count(2)", x.count(2), n);
        }
    }

    private static void regions() {
        LogForward x = ordinary();
        int[][] want = {{2, 6, 7, 11, 0}, {1, 3, 4, 5, 8, 9, 10, 0}};
        for (int region = 0; region <= 1; region++) {
            for (int i = 0; i < want[region].length; i++) {
                Check.due("merge(" + region + ", " + i + ")", x.merge(region, i), want[region][i]);
            }
        }
    }

    private static void rows() {
        LogForward x = new LogForward(1);
        for (int row = 1; row <= 512; row++) {
            Check.due("row " + row, x.row(1, 0, row - 1, row), row);
        }
    }

    /** Behind 511 calls: image 1 of row 0, unit 1 (509 changes of cell 0) open, row 509 torn in copy 0. */
    private static LogForward behind511() {
        LogForward x = new LogForward(1);
        Check.due("copy(false)", x.copy(false), 1);
        for (int row = 1; row <= 509; row++) {
            Check.due("row " + row, x.row(1, 0, row - 1, row), row);
        }
        Check.due("torn(0, 509)", x.torn(0, 509), 1);
        return x;
    }

    private static void lastChange() {
        Check.due("row", behind511().row(60, 31, 0, 7), 510);
        Check.due("sync(1)", behind511().sync(1), 510);
        Check.due("copy(true)", behind511().copy(true), 2);
        Check.due("recover(1, 509)", behind511().recover(1, 509), 0);
        Check.due("recover(1, 510)", behind511().recover(1, 510), -4);
        Check.due("backout(1)", behind511().backout(1), 509);
        Check.due("torn(1, 509)", behind511().torn(1, 509), 1);
        Check.due("archive(509)", behind511().archive(509), 509);
    }

    private static void lastRead() {
        Check.due("get(0)", behind511().get(0), 509);
        Check.due("gap(0)", behind511().gap(0), 0);
        Check.due("merge(0, 508)", behind511().merge(0, 508), 509);
        Check.due("at(509, 5)", behind511().at(509, 5), 1);
        Check.due("warm()", behind511().warm(), 1);
        Check.due("ahead()", behind511().ahead(), true);
        Check.due("count(0)", behind511().count(0), 509);
        LogForward x = behind511();
        Check.dueThrow("get(32)", IllegalArgumentException.class, () -> x.get(32));
        LogForward y = behind511();
        Check.dueThrow("at(510, 0)", ArrayIndexOutOfBoundsException.class, () -> y.at(510, 0));
    }
}
