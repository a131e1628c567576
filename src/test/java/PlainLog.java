import java.util.ArrayList;
import java.util.List;
import java.util.TreeSet;

/**
 * The document once more, as plainly as can be, to hold the class against in random runs: nothing
 * is kept but the rows and the images' spans, and all else, the cells too, is read from the rows.
 */
final class PlainLog {

    private static final class Row {
        int kind;
        int unit;
        int cell = -1;
        long before;
        long after;
        int torn;
        boolean back;
    }

    private static final class Image {
        int start;
        int end;
        boolean open;
        boolean gone;
    }

    private final int regions;
    private List<Row> rows = new ArrayList<>();
    private final List<Image> images = new ArrayList<>();
    private int archived;

    PlainLog(int logs) {
        regions = logs < 1 ? 1 : logs > 4 ? 4 : logs;
    }

    private static boolean unitOk(int unit) {
        return 1 <= unit && unit <= 60;
    }

    private long cell(int cell) {
        long value = 0;
        for (Row row : rows) {
            if (row.kind == 0 && row.cell == cell) {
                value = row.after;
            }
        }
        return value;
    }

    private boolean hasKind(int unit, int kind) {
        return rows.stream().anyMatch(row -> row.unit == unit && row.kind == kind);
    }

    private boolean over(int unit) {
        return hasKind(unit, 1) || hasKind(unit, 2);
    }

    private boolean open(int unit) {
        return hasKind(unit, 0) && !over(unit);
    }

    private int put(int kind, int unit, int cell, long before, long after, boolean back) {
        Row row = new Row();
        row.kind = kind;
        row.unit = unit;
        row.cell = cell;
        row.before = before;
        row.after = after;
        row.back = back;
        rows.add(row);
        for (Image image : images) {
            if (image.open && rows.size() == image.start + 5) {
                image.open = false;
                image.end = rows.size();
            }
        }
        return rows.size();
    }

    private void finish() {
        for (Image image : images) {
            if (image.open) {
                image.open = false;
                image.end = rows.size();
            }
        }
    }

    int row(int unit, int cell, long before, long after) {
        if (!unitOk(unit) || cell < 0 || cell > 31) {
            return -4;
        }
        if (over(unit)) {
            return -5;
        }
        for (Row row : rows) {
            if (row.kind == 0 && row.cell == cell && row.unit != unit && open(row.unit)) {
                return -3;
            }
        }
        if (cell(cell) != before) {
            return 0;
        }
        return rows.size() == 2000 ? -1 : put(0, unit, cell, before, after, false);
    }

    int sync(int unit) {
        if (!unitOk(unit)) {
            return -4;
        }
        if (!open(unit)) {
            return -5;
        }
        return rows.size() == 2000 ? -1 : put(1, unit, -1, 0, 0, false);
    }

    int copy(boolean fuzzy) {
        finish();
        if (images.size() == 20) {
            return -1;
        }
        Image image = new Image();
        image.start = rows.size();
        image.end = rows.size();
        image.open = fuzzy;
        images.add(image);
        return images.size();
    }

    /** The changes of a unit that backing out takes back, the latest first, by row numbers. */
    private List<Integer> changes(int unit) {
        List<Integer> found = new ArrayList<>();
        for (int i = rows.size(); i >= 1; i--) {
            Row row = rows.get(i - 1);
            if (row.unit == unit && row.kind == 0 && !row.back) {
                found.add(i);
            }
        }
        return found;
    }

    private void undo(int unit) {
        for (int i : changes(unit)) {
            Row row = rows.get(i - 1);
            put(0, unit, row.cell, row.after, row.before, true);
        }
        put(2, unit, -1, 0, 0, true);
    }

    int recover(int number, long until) {
        finish();
        if (number < 1 || number > images.size() || images.get(number - 1).gone) {
            return -2;
        }
        Image image = images.get(number - 1);
        if (until > rows.size() || until < image.end) {
            return -4;
        }
        List<Row> all = rows;
        rows = new ArrayList<>(all.subList(0, (int) until));
        TreeSet<Integer> needed = new TreeSet<>();
        for (int i = image.start + 1; i <= until; i++) {
            needed.add(i);
        }
        int room = 2000 - rows.size();
        for (int unit = 1; unit <= 60; unit++) {
            if (open(unit)) {
                needed.addAll(changes(unit));
                room -= changes(unit).size() + 1;
            }
        }
        for (int i : needed) {
            if (rows.get(i - 1).torn == 3) {
                rows = all;
                return -10 - i;
            }
        }
        if (room < 0) {
            rows = all;
            return -1;
        }
        archived = Math.min(archived, (int) until);
        for (Image other : images) {
            other.gone |= other.end > until;
        }
        for (int unit = 1; unit <= 60; unit++) {
            if (open(unit)) {
                undo(unit);
            }
        }
        return count(3);
    }

    long get(int cell) {
        return cell(cell);
    }

    int backout(int unit) {
        if (!unitOk(unit)) {
            return -4;
        }
        if (!open(unit)) {
            return 0;
        }
        List<Integer> changes = changes(unit);
        for (int i : changes) {
            if (rows.get(i - 1).torn == 3) {
                return -10 - i;
            }
        }
        if (rows.size() + changes.size() + 1 > 2000) {
            return -1;
        }
        undo(unit);
        return changes.size();
    }

    /** The document does not say which of 0 and -5 comes first of a row torn and then archived. */
    boolean leavesTornOpen(int log, int row) {
        return (log == 0 || log == 1) && row >= 1 && row <= archived && (rows.get(row - 1).torn & log + 1) != 0;
    }

    int torn(int log, int row) {
        if (log != 0 && log != 1 || row < 1 || row > rows.size()) {
            return -2;
        }
        if (row <= archived) {
            return -5;
        }
        Row at = rows.get(row - 1);
        int was = at.torn;
        at.torn |= log + 1;
        return was == at.torn ? 0 : 1;
    }

    int archive(int n) {
        if (n < 0 || n > rows.size()) {
            return -4;
        }
        archived = n > archived ? n : archived;
        return archived;
    }

    private static int pick(List<Integer> from, int i) {
        return i < 0 || i >= from.size() ? 0 : from.get(i);
    }

    private List<Integer> missing() {
        List<Integer> found = new ArrayList<>();
        for (int i = 1; i <= rows.size(); i++) {
            if (rows.get(i - 1).torn == 3) {
                found.add(i);
            }
        }
        return found;
    }

    int gap(int i) {
        return pick(missing(), i);
    }

    int merge(int region, int i) {
        List<Integer> found = new ArrayList<>();
        for (int k = 1; k <= rows.size(); k++) {
            if (Math.floorMod(rows.get(k - 1).unit, regions) == region) {
                found.add(k);
            }
        }
        return pick(found, i);
    }

    boolean hasAt(int i, int what) {
        return i >= 1 && i <= rows.size() && what >= 0 && what <= 6;
    }

    int at(int i, int what) {
        Row row = rows.get(i - 1);
        int[] all = {row.kind, row.unit, row.cell, (int) row.before, (int) row.after, row.torn, row.back ? 1 : 0};
        return all[what];
    }

    int warm() {
        int many = 0;
        for (int unit = 1; unit <= 60; unit++) {
            many += open(unit) ? 1 : 0;
        }
        return many;
    }

    boolean ahead() {
        return missing().isEmpty();
    }

    int count(int what) {
        switch (what) {
            case 0:
                return rows.size();
            case 1:
                return images.size();
            case 2:
                return archived;
            case 3:
                return (int) rows.stream().filter(row -> row.kind == 1).count();
            default:
                return -1;
        }
    }
}
