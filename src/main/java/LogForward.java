import java.util.Arrays;

/**
 * Cells changed by units of work under a log written ahead, in two copies: syncpoints, backing out
 * by rows that are written too, images of one moment and fuzzy ones with their span, recovery
 * forward to any row, rows torn in one copy or both, archives, logs by region.
 */
public final class LogForward {

    public static final int NONE = -1;

    private static final int CELLS = 32;
    private static final int UNITS = 60;
    private static final int MOST_REGIONS = 4;
    private static final int MOST_ROWS = 2000;

    private static final int CHANGE = 0;
    private static final int SYNCPOINT = 1;
    private static final int END_OF_BACKING_OUT = 2;

    private static final int NO_SUCH = -2;
    private static final int CHANGED_BY_ANOTHER = -3;
    private static final int NOT_SO = -4;
    private static final int TOO_LATE = -5;
    private static final int MISSING = -10;

    private final int regions;
    private final long[] cells = new long[CELLS];
    private final Rows rows = new Rows();
    private final Units units = new Units();
    /** The units as they stood at the row that a recovery asks for; kept apart, as it may refuse. */
    private final Units unitsThen = new Units();
    private final Images images = new Images();

    public LogForward(int logs) {
        regions = Math.max(1, Math.min(MOST_REGIONS, logs));
    }

    public int row(int unit, int cell, long before, long after) {
        if (!isUnit(unit) || !isCell(cell)) {
            return NOT_SO;
        }
        if (units.isOver(unit)) {
            return TOO_LATE;
        }
        if (units.isChangedByAnother(cell, unit)) {
            return CHANGED_BY_ANOTHER;
        }
        if (cells[cell] != before) {
            return 0;
        }
        if (!rows.hasRoomFor(1)) {
            return NONE;
        }
        return writeChange(unit, cell, before, after, false);
    }

    public int sync(int unit) {
        if (!isUnit(unit)) {
            return NOT_SO;
        }
        if (!units.isOpen(unit)) {
            return TOO_LATE;
        }
        if (!rows.hasRoomFor(1)) {
            return NONE;
        }
        return writeLastOf(unit, SYNCPOINT, false);
    }

    public int copy(boolean fuzzy) {
        images.finish(rows.latest(), cells);
        return images.take(fuzzy, rows.latest(), cells);
    }

    public int recover(int image, long until) {
        images.finish(rows.latest(), cells);
        if (!images.isGood(image)) {
            return NO_SUCH;
        }
        if (until > rows.latest() || until < images.endOf(image)) {
            return NOT_SO;
        }
        int upTo = (int) until;
        unitsThen.followAll(rows, upTo);
        int missing = leastMissing(images.startOf(image), upTo);
        if (missing != 0) {
            return MISSING - missing;
        }
        if (upTo + rowsOfBackingOut(upTo) > MOST_ROWS) {
            return NONE;
        }
        bringForward(image, upTo);
        dropBehind(upTo);
        backOutAllOpen();
        return units.howManyEndedBy(SYNCPOINT);
    }

    public long get(int cell) throws IllegalArgumentException {
        if (!isCell(cell)) {
            throw new IllegalArgumentException("there is no such cell");
        }
        return cells[cell];
    }

    public int backout(int unit) {
        if (!isUnit(unit)) {
            return NOT_SO;
        }
        if (!units.isOpen(unit)) {
            return 0;
        }
        int missing = latestMissingOf(unit);
        if (missing != 0) {
            return MISSING - missing;
        }
        int changes = changesOf(unit);
        if (!rows.hasRoomFor(changes + 1)) {
            return NONE;
        }
        writeBackingOut(unit);
        return changes;
    }

    public int torn(int log, int row) {
        if (log < 0 || log > 1 || !rows.has(row)) {
            return NO_SUCH;
        }
        if (row <= rows.archived()) {
            return TOO_LATE;
        }
        return rows.tear(log, row) ? 1 : 0;
    }

    public int archive(int n) {
        if (n < 0 || n > rows.latest()) {
            return NOT_SO;
        }
        rows.putAway(n);
        return rows.archived();
    }

    public int gap(int i) {
        int left = i;
        for (int row = 1; row <= rows.latest(); row++) {
            if (rows.isMissing(row)) {
                if (left == 0) {
                    return row;
                }
                left--;
            }
        }
        return 0;
    }

    public int merge(int region, int i) {
        int left = i;
        for (int row = 1; row <= rows.latest(); row++) {
            if (rows.unitOf(row) % regions == region) {
                if (left == 0) {
                    return row;
                }
                left--;
            }
        }
        return 0;
    }

    public int at(int i, int what) throws ArrayIndexOutOfBoundsException {
        if (!rows.has(i) || what < 0 || what > 6) {
            throw new ArrayIndexOutOfBoundsException("there is no such row, or nothing such of a row");
        }
        return rows.tell(i, what);
    }

    public int warm() {
        return units.howManyOpen();
    }

    public boolean ahead() {
        return gap(0) == 0;
    }

    public int count(int what) {
        switch (what) {
            case 0:
                return rows.latest();
            case 1:
                return images.howMany();
            case 2:
                return rows.archived();
            case 3:
                return units.howManyEndedBy(SYNCPOINT);
            default:
                return NONE;
        }
    }

    private static boolean isUnit(int unit) {
        return unit >= 1 && unit <= UNITS;
    }

    private static boolean isCell(int cell) {
        return cell >= 0 && cell < CELLS;
    }

    private int writeChange(int unit, int cell, long before, long after, boolean backingOut) {
        int number = rows.write(CHANGE, unit, cell, before, after, backingOut);
        units.follow(CHANGE, unit, cell);
        setCell(cell, after);
        images.finishBehindFifth(number, cells);
        return number;
    }

    private int writeLastOf(int unit, int kind, boolean backingOut) {
        int number = rows.write(kind, unit, NONE, 0, 0, backingOut);
        units.follow(kind, unit, NONE);
        images.finishBehindFifth(number, cells);
        return number;
    }

    private void setCell(int cell, long value) {
        if (isCell(cell)) {
            cells[cell] = value;
        }
    }

    /** The caller has seen that there is room for all of the rows. */
    private void writeBackingOut(int unit) {
        for (int row = rows.latest(); row >= 1; row--) {
            if (rows.isBackable(row) && rows.unitOf(row) == unit) {
                writeChange(unit, rows.cellOf(row), rows.afterOf(row), rows.beforeOf(row), true);
            }
        }
        writeLastOf(unit, END_OF_BACKING_OUT, true);
    }

    private int changesOf(int unit) {
        int changes = 0;
        for (int row = 1; row <= rows.latest(); row++) {
            if (rows.isBackable(row) && rows.unitOf(row) == unit) {
                changes++;
            }
        }
        return changes;
    }

    private int latestMissingOf(int unit) {
        for (int row = rows.latest(); row >= 1; row--) {
            if (rows.isMissing(row) && rows.isBackable(row) && rows.unitOf(row) == unit) {
                return row;
            }
        }
        return 0;
    }

    private boolean isToBeBackedOut(int row) {
        return rows.isBackable(row) && unitsThen.isOpen(rows.unitOf(row));
    }

    private int leastMissing(int start, int upTo) {
        for (int row = 1; row <= upTo; row++) {
            if (rows.isMissing(row) && (row > start || isToBeBackedOut(row))) {
                return row;
            }
        }
        return 0;
    }

    private int rowsOfBackingOut(int upTo) {
        int ends = unitsThen.howManyOpen();
        int changes = 0;
        for (int row = 1; row <= upTo; row++) {
            if (isToBeBackedOut(row)) {
                changes++;
            }
        }
        return changes + ends;
    }

    private void bringForward(int image, int upTo) {
        images.putBack(image, cells);
        for (int row = images.startOf(image) + 1; row <= upTo; row++) {
            if (rows.isChange(row)) {
                setCell(rows.cellOf(row), rows.afterOf(row));
            }
        }
    }

    private void dropBehind(int upTo) {
        rows.dropBehind(upTo);
        images.spoilBehind(upTo);
        units.followAll(rows, upTo);
    }

    private void backOutAllOpen() {
        for (int unit = 1; unit <= UNITS; unit++) {
            if (units.isOpen(unit)) {
                writeBackingOut(unit);
            }
        }
    }

    /** The rows of the log, by their numbers from 1 on; place 0 of each array stays unused. */
    private static final class Rows {

        private static final int BOTH_COPIES = 3;

        private final int[] kind = new int[MOST_ROWS + 1];
        private final int[] unit = new int[MOST_ROWS + 1];
        private final int[] cell = new int[MOST_ROWS + 1];
        private final long[] before = new long[MOST_ROWS + 1];
        private final long[] after = new long[MOST_ROWS + 1];
        private final int[] tornCopies = new int[MOST_ROWS + 1];
        private final boolean[] backingOut = new boolean[MOST_ROWS + 1];
        private int latest = 0;
        private int archived = 0;

        int latest() {
            return latest;
        }

        int archived() {
            return archived;
        }

        boolean has(int row) {
            return row >= 1 && row <= latest;
        }

        boolean hasRoomFor(int more) {
            return more <= MOST_ROWS - latest;
        }

        int write(int ofKind, int ofUnit, int ofCell, long was, long is, boolean byBackingOut) {
            if (!hasRoomFor(1)) {
                return NONE;
            }
            latest++;
            kind[latest] = ofKind;
            unit[latest] = ofUnit;
            cell[latest] = ofCell;
            before[latest] = was;
            after[latest] = is;
            backingOut[latest] = byBackingOut;
            // A row of this number that is gone may have been torn; this one is not.
            tornCopies[latest] = 0;
            return latest;
        }

        /** Whether the row was whole in that copy. */
        boolean tear(int copy, int row) {
            if (!has(row) || (tornCopies[row] >> copy & 1) != 0) {
                return false;
            }
            tornCopies[row] |= 1 << copy;
            return true;
        }

        void putAway(int upTo) {
            archived = Math.max(archived, upTo);
        }

        void dropBehind(int upTo) {
            latest = Math.min(latest, upTo);
            archived = Math.min(archived, upTo);
        }

        boolean isMissing(int row) {
            return has(row) && tornCopies[row] == BOTH_COPIES;
        }

        boolean isChange(int row) {
            return has(row) && kind[row] == CHANGE;
        }

        /** Whether backing out the row's unit takes this row back: its own changes alone. */
        boolean isBackable(int row) {
            return isChange(row) && !backingOut[row];
        }

        int kindOf(int row) {
            return has(row) ? kind[row] : NONE;
        }

        int unitOf(int row) {
            return has(row) ? unit[row] : 0;
        }

        int cellOf(int row) {
            return has(row) ? cell[row] : NONE;
        }

        long beforeOf(int row) {
            return has(row) ? before[row] : 0;
        }

        long afterOf(int row) {
            return has(row) ? after[row] : 0;
        }

        int tell(int row, int what) {
            if (!has(row)) {
                return NONE;
            }
            switch (what) {
                case 0:
                    return kind[row];
                case 1:
                    return unit[row];
                case 2:
                    return cell[row];
                case 3:
                    return (int) before[row];
                case 4:
                    return (int) after[row];
                case 5:
                    return tornCopies[row];
                default:
                    return backingOut[row] ? 1 : 0;
            }
        }
    }

    /** Where the units stand: the kind of a unit's latest row tells whether it is open or over. */
    private static final class Units {

        private final int[] latestKind = new int[UNITS + 1];
        /**
         * The unit that changed a cell last, 0 without one. No other can be open and have changed
         * it: the later one would have been refused.
         */
        private final int[] changer = new int[CELLS];

        Units() {
            Arrays.fill(latestKind, NONE);
        }

        boolean isOpen(int unit) {
            return isUnit(unit) && latestKind[unit] == CHANGE;
        }

        boolean isOver(int unit) {
            return isUnit(unit) && latestKind[unit] > CHANGE;
        }

        boolean isChangedByAnother(int cell, int unit) {
            return isCell(cell) && changer[cell] != unit && isOpen(changer[cell]);
        }

        void follow(int kind, int unit, int cell) {
            if (isUnit(unit)) {
                latestKind[unit] = kind;
            }
            if (isCell(cell)) {
                changer[cell] = unit;
            }
        }

        /** All that was followed before is forgotten, so that rows that are gone leave no trace. */
        void followAll(Rows rows, int upTo) {
            Arrays.fill(latestKind, NONE);
            Arrays.fill(changer, 0);
            for (int row = 1; row <= upTo; row++) {
                follow(rows.kindOf(row), rows.unitOf(row), rows.cellOf(row));
            }
        }

        int howManyOpen() {
            return howManyEndedBy(CHANGE);
        }

        int howManyEndedBy(int kind) {
            int many = 0;
            for (int unit = 1; unit <= UNITS; unit++) {
                if (latestKind[unit] == kind) {
                    many++;
                }
            }
            return many;
        }
    }

    /** The images, by their numbers from 1 on; place 0 of each array stays unused. */
    private static final class Images {

        private static final int MOST_IMAGES = 20;
        private static final int TAKEN_AT_ONCE = 16;
        private static final int LONGEST_SPAN = 5;

        private final int[] start = new int[MOST_IMAGES + 1];
        private final int[] end = new int[MOST_IMAGES + 1];
        private final boolean[] spoiled = new boolean[MOST_IMAGES + 1];
        private final long[][] held = new long[MOST_IMAGES + 1][CELLS];
        private int many = 0;
        /** Only the latest image can be: the next copy() finishes it first. */
        private boolean latestIsUnfinished = false;

        int howMany() {
            return many;
        }

        boolean has(int image) {
            return image >= 1 && image <= many;
        }

        boolean isGood(int image) {
            return has(image) && !spoiled[image];
        }

        int startOf(int image) {
            return has(image) ? start[image] : 0;
        }

        int endOf(int image) {
            return has(image) ? end[image] : 0;
        }

        int take(boolean fuzzy, int latestRow, long[] cells) {
            if (many >= MOST_IMAGES) {
                return NONE;
            }
            many++;
            start[many] = latestRow;
            end[many] = latestRow;
            int taken = fuzzy ? TAKEN_AT_ONCE : CELLS;
            System.arraycopy(cells, 0, held[many], 0, taken);
            latestIsUnfinished = fuzzy;
            return many;
        }

        void finish(int latestRow, long[] cells) {
            if (!latestIsUnfinished) {
                return;
            }
            System.arraycopy(cells, TAKEN_AT_ONCE, held[many], TAKEN_AT_ONCE, CELLS - TAKEN_AT_ONCE);
            end[many] = latestRow;
            latestIsUnfinished = false;
        }

        void finishBehindFifth(int row, long[] cells) {
            if (row - start[many] >= LONGEST_SPAN) {
                finish(row, cells);
            }
        }

        void putBack(int image, long[] cells) {
            if (has(image)) {
                System.arraycopy(held[image], 0, cells, 0, CELLS);
            }
        }

        void spoilBehind(int row) {
            for (int image = 1; image <= many; image++) {
                if (end[image] > row) {
                    spoiled[image] = true;
                }
            }
        }
    }
}
