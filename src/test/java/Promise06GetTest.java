/** Promise 6: get. */
public final class Promise06GetTest {

    public static void main(String[] args) {
        Sentences promise = new Sentences("Promise 6: get");
        promise.says("A cell.", "each of the 32", Promise06GetTest::each);
        promise.says("A cell.", "numbers of 64 bits", Promise06GetTest::wide);
        promise.says("IllegalArgumentException when there is none such", "too small", Promise06GetTest::tooSmall);
        promise.says("IllegalArgumentException when there is none such", "too large", Promise06GetTest::tooLarge);
        promise.says("IllegalArgumentException when there is none such", "nothing changes",
            Promise06GetTest::unchanged);
        promise.term("CELLS 0 .. 31 hold numbers of 64 bits (0 at first)", "0 at first", Promise06GetTest::atFirst);
        promise.end();
    }

    private static void each() {
        LogForward x = new LogForward(1);
        for (int cell = 0; cell < 32; cell++) {
            Check.due("row", x.row(1, cell, 0, cell + 1), cell + 1);
        }
        for (int cell = 0; cell < 32; cell++) {
            Check.due("get(" + cell + ")", x.get(cell), cell + 1);
        }
    }

    private static void wide() {
        LogForward x = new LogForward(1);
        long[] wide = {Long.MIN_VALUE, Long.MAX_VALUE, -1, 1L << 32, 1L << 31, (1L << 32) - 1, Long.MIN_VALUE + 1};
        long held = 0;
        for (long after : wide) {
            Check.due("row", x.row(1, 31, held, after) > 0, true);
            Check.due("get(31)", x.get(31), after);
            held = after;
        }
    }

    private static void tooSmall() {
        LogForward x = new LogForward(1);
        int[] small = {-1, -2, -32, Integer.MIN_VALUE + 1, Integer.MIN_VALUE};
        for (int cell : small) {
            thrown(x, cell);
        }
        Check.due("get(0)", x.get(0), 0);
    }

    private static void tooLarge() {
        LogForward x = new LogForward(1);
        int[] large = {32, 33, 64, 2000, Integer.MAX_VALUE - 1, Integer.MAX_VALUE};
        for (int cell : large) {
            thrown(x, cell);
        }
        Check.due("get(31)", x.get(31), 0);
    }

    private static void unchanged() {
        LogForward x = new LogForward(1);
        Check.countUp(x, 1, 31, 3);
        Check.dueRefused("get(32)", x, 0, () -> {
            thrown(x, 32);
            return 0;
        });
    }

    private static void thrown(LogForward x, int cell) {
        Check.dueThrow("get(" + cell + ")", IllegalArgumentException.class, () -> x.get(cell));
    }

    private static void atFirst() {
        LogForward x = new LogForward(4);
        for (int cell = 0; cell < 32; cell++) {
            Check.due("get(" + cell + ")", x.get(cell), 0);
        }
        Check.countUp(x, 1, 5, 1);
        Check.due("a neighbour", x.get(4), 0);
        Check.due("a neighbour", x.get(6), 0);
    }
}
