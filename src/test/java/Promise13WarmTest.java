/** Promise 13: warm. */
public final class Promise13WarmTest {

    public static void main(String[] args) {
        LogForward x = new LogForward(1);
        Check.due("none", x.warm(), 0);
        Check.due("copy(false)", x.copy(false), 1);
        Check.due("row", x.row(1, 0, 0, 1), 1);
        Check.due("row", x.row(60, 1, 0, 1), 2);
        Check.due("row", x.row(60, 1, 1, 2), 3);
        Check.due("two", x.warm(), 2);
        Check.due("refused", x.row(2, 0, 1, 2), -3);
        Check.due("refused", x.row(2, 5, 1, 2), 0);
        Check.due("two", x.warm(), 2);
        Check.due("sync(1)", x.sync(1), 4);
        Check.due("one", x.warm(), 1);
        Check.due("backout(60)", x.backout(60), 2);
        Check.due("none", x.warm(), 0);
        Check.due("row", x.row(3, 0, 1, 2), 8);
        Check.due("one", x.warm(), 1);
        Check.due("recover(1, 8)", x.recover(1, 8), 1);
        Check.due("recovery leaves none", x.warm(), 0);
        for (int unit = 4; unit <= 31; unit++) {
            Check.due("row", x.row(unit, unit, 0, 1), unit + 7);
        }
        Check.due("twenty-eight", x.warm(), 28);
        Check.end();
    }
}
