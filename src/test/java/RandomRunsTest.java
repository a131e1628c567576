import java.util.Random;

/** Random runs of 512 calls, each answer held against PlainLog's; the seeds are fixed. */
public final class RandomRunsTest {

    private static final int RUNS = 400;
    private static final int CALLS = 512;
    private static final int[] EXTREMES = {
        Integer.MIN_VALUE, Integer.MIN_VALUE + 1, -1, 61, 2000, 2001, Integer.MAX_VALUE - 1, Integer.MAX_VALUE,
    };

    private final Random random;
    private final LogForward x;
    private final PlainLog plain;
    private final int cells;
    private final int units;
    private final int tearing;
    private final int recovering;
    private final String run;

    private RandomRunsTest(int seed) {
        random = new Random(seed);
        int logs = random.nextInt(7) - 1;
        x = new LogForward(logs);
        plain = new PlainLog(logs);
        cells = 1 + random.nextInt(32);
        units = 1 + random.nextInt(60);
        tearing = random.nextInt(3) * 4;
        recovering = 1 + random.nextInt(6);
        run = "run " + seed + " ";
    }

    public static void main(String[] args) {
        for (int seed = 1; seed <= RUNS; seed++) {
            new RandomRunsTest(seed).calls();
        }
        Check.end();
    }

    private void calls() {
        for (int call = 0; call < CALLS; call++) {
            oneCall();
        }
        allDue();
    }

    private int near(int low, int high) {
        if (random.nextInt(60) == 0) {
            return EXTREMES[random.nextInt(EXTREMES.length)];
        }
        return low - 1 + random.nextInt(high - low + 3);
    }

    private void oneCall() {
        int rows = plain.count(0);
        int choice = random.nextInt(60 + tearing + recovering);
        if (choice < 36) {
            row();
        } else if (choice < 42) {
            int unit = near(1, units);
            Check.due(run + "sync(" + unit + ")", x.sync(unit), plain.sync(unit));
        } else if (choice < 45) {
            int unit = near(1, units);
            Check.due(run + "backout(" + unit + ")", x.backout(unit), plain.backout(unit));
        } else if (choice < 48) {
            boolean fuzzy = random.nextBoolean();
            Check.due(run + "copy(" + fuzzy + ")", x.copy(fuzzy), plain.copy(fuzzy));
        } else if (choice < 49) {
            int n = near(0, rows);
            Check.due(run + "archive(" + n + ")", x.archive(n), plain.archive(n));
        } else if (choice < 60) {
            reading(choice - 49);
        } else if (choice < 60 + tearing) {
            int log = near(0, 1);
            int row = near(Math.max(1, rows - 5), rows + 1);
            Check.due(run + "torn(" + log + ", " + row + ")", x.torn(log, row), plain.torn(log, row));
        } else {
            recover(rows);
        }
    }

    private void row() {
        int unit = near(1, units);
        int cell = near(0, cells - 1);
        long before = cell >= 0 && cell <= 31 && random.nextInt(10) > 0 ? plain.get(cell) : random.nextInt(3);
        long after = random.nextInt(4) == 0 ? random.nextLong() : random.nextInt(3);
        Check.due(run + "row(" + unit + ", " + cell + ", " + before + ", " + after + ")",
            x.row(unit, cell, before, after), plain.row(unit, cell, before, after));
    }

    private void recover(int rows) {
        int image = random.nextInt(8) == 0 ? near(1, 20) : Math.max(1, plain.count(1) - random.nextInt(4));
        long until = random.nextInt(40) == 0 ? random.nextLong() : near(Math.max(0, rows - random.nextInt(20)), rows);
        Check.due(run + "recover(" + image + ", " + until + ")", x.recover(image, until), plain.recover(image, until));
        allDue();
    }

    private void reading(int choice) {
        int i = near(0, 5);
        if (choice < 2) {
            Check.due(run + "gap(" + i + ")", x.gap(i), plain.gap(i));
        } else if (choice < 5) {
            int region = near(0, 4);
            Check.due(run + "merge(" + region + ", " + i + ")", x.merge(region, i), plain.merge(region, i));
        } else if (choice < 8) {
            at(near(1, plain.count(0)), near(0, 6));
        } else if (choice < 9) {
            get(near(0, 31));
        } else {
            counts();
        }
    }

    private void at(int i, int what) {
        long want = 0;
        try {
            want = plain.at(i, what);
        } catch (ArrayIndexOutOfBoundsException none) {
            Check.dueThrow(run + "at(" + i + ", " + what + ")", ArrayIndexOutOfBoundsException.class, () -> x.at(i, what));
            return;
        }
        Check.due(run + "at(" + i + ", " + what + ")", x.at(i, what), want);
    }

    private void get(int cell) {
        if (cell < 0 || cell > 31) {
            Check.dueThrow(run + "get(" + cell + ")", IllegalArgumentException.class, () -> x.get(cell));
        } else {
            Check.due(run + "get(" + cell + ")", x.get(cell), plain.get(cell));
        }
    }

    private void counts() {
        Check.due(run + "warm()", x.warm(), plain.warm());
        Check.due(run + "ahead()", x.ahead(), plain.ahead());
        for (int what = -1; what <= 4; what++) {
            Check.due(run + "count(" + what + ")", x.count(what), plain.count(what));
        }
    }

    private void allDue() {
        counts();
        for (int cell = 0; cell < 32; cell++) {
            get(cell);
        }
        for (int row = 1; row <= plain.count(0); row++) {
            for (int what = 0; what <= 6; what++) {
                at(row, what);
            }
        }
    }
}
