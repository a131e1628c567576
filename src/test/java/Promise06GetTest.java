/** Promise 6: get. */
public final class Promise06GetTest {

    public static void main(String[] args) {
        LogForward x = new LogForward(1);
        for (int cell = 0; cell < 32; cell++) {
            Check.due("row", x.row(1, cell, 0, (cell + 1L) << 40), cell + 1);
        }
        for (int cell = 0; cell < 32; cell++) {
            Check.due("get(" + cell + ")", x.get(cell), (cell + 1L) << 40);
        }
        int[] noCell = {-1, 32, Integer.MIN_VALUE, Integer.MAX_VALUE};
        for (int cell : noCell) {
            Check.dueThrow("get(" + cell + ")", IllegalArgumentException.class, () -> x.get(cell));
        }
        Check.end();
    }
}
