/** What it is: how many calls an object is good for. */
public final class WhatItIsTest {

    public static void main(String[] args) {
        Sentences section = new Sentences("What it is");
        String calls = "An object is used for at most 512 calls after it has been made";
        section.says(calls, "512 rows", WhatItIsTest::rows);
        section.says(calls, "the 512th call, each that changes something", WhatItIsTest::lastChange);
        section.says(calls, "the 512th call, each that reads", WhatItIsTest::lastRead);
        section.end();
    }

    private static void rows() {
        LogForward x = new LogForward(1);
        for (int row = 1; row <= 512; row++) {
            Check.due("row " + row, x.row(1, 0, row - 1, row), row);
        }
    }

    /** Behind 511 calls: image 1 of row 0, unit 1 (509 changes of cell 0) open, row 509 torn in copy 0. */
    private static LogForward behind511() {
        LogForward x = new LogForward(1);
        Check.due("copy(false)", x.copy(false), 1);
        for (int row = 1; row <= 509; row++) {
            Check.due("row " + row, x.row(1, 0, row - 1, row), row);
        }
        Check.due("torn(0, 509)", x.torn(0, 509), 1);
        return x;
    }

    private static void lastChange() {
        Check.due("row", behind511().row(60, 31, 0, 7), 510);
        Check.due("sync(1)", behind511().sync(1), 510);
        Check.due("copy(true)", behind511().copy(true), 2);
        Check.due("recover(1, 509)", behind511().recover(1, 509), 0);
        Check.due("recover(1, 510)", behind511().recover(1, 510), -4);
        Check.due("backout(1)", behind511().backout(1), 509);
        Check.due("torn(1, 509)", behind511().torn(1, 509), 1);
        Check.due("archive(509)", behind511().archive(509), 509);
    }

    private static void lastRead() {
        Check.due("get(0)", behind511().get(0), 509);
        Check.due("gap(0)", behind511().gap(0), 0);
        Check.due("merge(0, 508)", behind511().merge(0, 508), 509);
        Check.due("at(509, 5)", behind511().at(509, 5), 1);
        Check.due("warm()", behind511().warm(), 1);
        Check.due("ahead()", behind511().ahead(), true);
        Check.due("count(0)", behind511().count(0), 509);
        LogForward x = behind511();
        Check.dueThrow("get(32)", IllegalArgumentException.class, () -> x.get(32));
        LogForward y = behind511();
        Check.dueThrow("at(510, 0)", ArrayIndexOutOfBoundsException.class, () -> y.at(510, 0));
    }
}
