import java.util.Random;

/**
 * Random runs of the 512 calls that an object is good for, each answer held against PlainLog's; the
 * seeds are fixed.
 */
public final class RandomRunsTest {

    private static final int RUNS = 1500;
    private static final int CALLS = 512;
    private static final int READS_BEHIND_A_RECOVERY = 25;
    private static final int[] EXTREMES = {
        Integer.MIN_VALUE, Integer.MIN_VALUE + 1, -1, 61, 2000, 2001, Integer.MAX_VALUE - 1, Integer.MAX_VALUE,
    };

    private final Random random;
    private final LogForward x;
    private final PlainLog plain;
    private final int cells;
    private final int units;
    private final int tearing;
    private final int recovering;
    private final String run;
    private int readsDue = 0;

    private RandomRunsTest(int seed) {
        random = new Random(seed);
        int logs = random.nextInt(7) - 1;
        x = new LogForward(logs);
        plain = new PlainLog(logs);
        cells = 1 + random.nextInt(32);
        units = 1 + random.nextInt(60);
        tearing = random.nextInt(3) * 4;
        recovering = 1 + random.nextInt(6);
        run = "run " + seed + " ";
    }

    public static void main(String[] args) {
        for (int seed = 1; seed <= RUNS; seed++) {
            new RandomRunsTest(seed).calls();
        }
        Check.end();
    }

    private void calls() {
        for (int call = 0; call < CALLS; call++) {
            oneCall();
        }
    }

    private int near(int low, int high) {
        if (random.nextInt(60) == 0) {
            return EXTREMES[random.nextInt(EXTREMES.length)];
        }
        return low - 1 + random.nextInt(high - low + 3);
    }

    private void oneCall() {
        int choice = random.nextInt(60 + tearing + recovering);
        if (readsDue > 0) {
            readsDue--;
            read();
        } else if (choice < 36) {
            row();
        } else if (choice < 42) {
            int unit = near(1, units);
            Check.due(run + "sync(" + unit + ")", x.sync(unit), plain.sync(unit));
        } else if (choice < 45) {
            int unit = near(1, units);
            Check.due(run + "backout(" + unit + ")", x.backout(unit), plain.backout(unit));
        } else if (choice < 48) {
            boolean fuzzy = random.nextBoolean();
            Check.due(run + "copy(" + fuzzy + ")", x.copy(fuzzy), plain.copy(fuzzy));
        } else if (choice < 49) {
            int n = near(0, plain.count(0));
            Check.due(run + "archive(" + n + ")", x.archive(n), plain.archive(n));
        } else if (choice < 60) {
            read();
        } else if (choice < 60 + tearing) {
            torn();
        } else {
            recover();
        }
    }

    private void row() {
        int unit = near(1, units);
        int cell = near(0, cells - 1);
        long before = cell >= 0 && cell <= 31 && random.nextInt(10) > 0 ? plain.get(cell) : random.nextInt(3);
        long after = random.nextInt(4) == 0 ? random.nextLong() : random.nextInt(3);
        Check.due(run + "row(" + unit + ", " + cell + ", " + before + ", " + after + ")",
            x.row(unit, cell, before, after), plain.row(unit, cell, before, after));
    }

    private void torn() {
        int log = near(0, 1);
        int row = near(Math.max(1, plain.count(0) - 5), plain.count(0) + 1);
        if (plain.leavesTornOpen(log, row)) {
            return;
        }
        Check.due(run + "torn(" + log + ", " + row + ")", x.torn(log, row), plain.torn(log, row));
    }

    private void recover() {
        int rows = plain.count(0);
        int image = random.nextInt(8) == 0 ? near(1, 20) : Math.max(1, plain.count(1) - random.nextInt(4));
        long until = random.nextInt(40) == 0 ? random.nextLong() : near(Math.max(0, rows - random.nextInt(20)), rows);
        String call = run + "recover(" + image + ", " + until + ")";
        Check.due(call, x.recover(image, until), plain.recover(image, until));
        readsDue = READS_BEHIND_A_RECOVERY;
    }

    private void read() {
        int rows = plain.count(0);
        int i = near(0, 5);
        switch (random.nextInt(10)) {
            case 0:
                Check.due(run + "gap(" + i + ")", x.gap(i), plain.gap(i));
                break;
            case 1:
                int region = near(0, 4);
                Check.due(run + "merge(" + region + ", " + i + ")", x.merge(region, i), plain.merge(region, i));
                break;
            case 2:
                Check.due(run + "warm()", x.warm(), plain.warm());
                break;
            case 3:
                Check.due(run + "ahead()", x.ahead(), plain.ahead());
                break;
            case 4:
                int what = near(0, 3);
                Check.due(run + "count(" + what + ")", x.count(what), plain.count(what));
                break;
            case 5:
            case 6:
                get(near(0, 31));
                break;
            case 7:
                at(near(1, rows), near(0, 6));
                break;
            default:
                at(near(Math.max(1, rows - 15), rows), near(0, 6));
                break;
        }
    }

    private void at(int i, int what) {
        String call = run + "at(" + i + ", " + what + ")";
        if (plain.hasAt(i, what)) {
            Check.due(call, x.at(i, what), plain.at(i, what));
        } else {
            Check.dueThrow(call, ArrayIndexOutOfBoundsException.class, () -> x.at(i, what));
        }
    }

    private void get(int cell) {
        String call = run + "get(" + cell + ")";
        if (cell < 0 || cell > 31) {
            Check.dueThrow(call, IllegalArgumentException.class, () -> x.get(cell));
        } else {
            Check.due(call, x.get(cell), plain.get(cell));
        }
    }
}
