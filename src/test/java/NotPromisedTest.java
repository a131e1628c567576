import java.util.Random;

/** Not promised: behind the 512th call rule 7 of LANGUAGE.md still binds, and reading never changes anything. */
public final class NotPromisedTest {

    private static final int CALLS = 20000;
    private static final int[] ODD = {Integer.MIN_VALUE, -2000, -1, 0, 1, 2, 61, 2000, 2001, Integer.MAX_VALUE};

    public static void main(String[] args) {
        Sentences section = new Sentences("Not promised");
        section.says("nothing about an object after its 512th call", "it throws nothing but what get() and at() do",
            () -> longRuns(CALLS));
        section.says("Nothing is promised beyond the answers and state changes described above",
            "calls that read change nothing", NotPromisedTest::reads);
        section.end();
    }

    private static void longRuns(int calls) {
        for (int seed = 1; seed <= 20; seed++) {
            Random random = new Random(seed);
            LogForward x = new LogForward(random.nextInt());
            // With few units and seldom anything but rows, the log of a later run is full at times.
            int units = 62 / seed;
            for (int call = 0; call < calls; call++) {
                change(x, random, units, random.nextInt(seed * seed) == 0);
                read(x, random);
            }
        }
    }

    private static int number(Random random, int below) {
        return random.nextInt(50) == 0 ? ODD[random.nextInt(ODD.length)] : random.nextInt(below);
    }

    private static void change(LogForward x, Random random, int units, boolean anything) {
        int unit = number(random, units);
        int row = number(random, x.count(0) + 2);
        int choice = random.nextInt(anything ? 200 : 150);
        if (choice < 150) {
            int cell = number(random, 34);
            x.row(unit, cell, cell >= 0 && cell <= 31 ? x.get(cell) : 0, random.nextLong());
        } else if (choice < 160) {
            x.sync(unit);
        } else if (choice < 170) {
            x.backout(unit);
        } else if (choice < 172) {
            x.copy(random.nextBoolean());
        } else if (choice < 180) {
            x.torn(number(random, 2), row);
        } else if (choice < 181) {
            x.archive(row);
        } else {
            x.recover(number(random, 22), random.nextInt(50) == 0 ? random.nextLong() : row);
        }
    }

    private static void read(LogForward x, Random random) {
        int rows = x.count(0);
        int i = number(random, rows + 2);
        int what = number(random, 8);
        int cell = number(random, 34);
        x.gap(i);
        x.merge(what, i);
        x.warm();
        x.ahead();
        x.count(what);
        if (i >= 1 && i <= rows && what >= 0 && what <= 6) {
            x.at(i, what);
        } else {
            Check.dueThrow("at(" + i + ", " + what + ")", ArrayIndexOutOfBoundsException.class, () -> x.at(i, what));
        }
        if (cell >= 0 && cell <= 31) {
            x.get(cell);
        } else {
            Check.dueThrow("get(" + cell + ")", IllegalArgumentException.class, () -> x.get(cell));
        }
    }

    /** A fuzzy image is unfinished while the calls read, and still is behind them. */
    private static void reads() {
        LogForward x = new LogForward(3);
        Check.syncedUnit(x, 1, 0, 5);
        Check.due("row(2, 16, 0, 6)", x.row(2, 16, 0, 6), 3);
        Check.due("copy(true)", x.copy(true), 1);
        Check.tearBoth(x, 1);
        Check.dueRefused("gap(0)", x, 1, () -> x.gap(0));
        Check.dueRefused("merge(1, 1)", x, 2, () -> x.merge(1, 1));
        Check.due("row(2, 0, 5, 7)", x.row(2, 0, 5, 7), 4);
        Check.due("recover(1, 3)", x.recover(1, 3), -4);
        Check.due("recover(1, 4)", x.recover(1, 4), 1);
        Check.due("get(16)", x.get(16), 0);
        Check.due("get(0)", x.get(0), 5);
    }
}
