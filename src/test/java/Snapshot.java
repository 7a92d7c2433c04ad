import java.util.ArrayList;
import java.util.List;
import java.util.Map;
import java.util.TreeMap;
import java.util.function.BiFunction;
import java.util.function.Function;

/**
 * Everything that an index tells, in lines. A line rests on one method alone, over ranges that are
 * a little wider than any index, so that a fault of another method can't hide what it tells.
 */
final class Snapshot {
    private static final int NO_ID = Integer.MIN_VALUE;
    private static final int LAST_ID = 12;
    private static final int LAST_ROW = 497;
    private static final int LAST_WORD = 17;

    private static final Map<String, Function<WahBitmapIndex, Object>> OF_INDEX =
        new TreeMap<>(Map.of(
            "getRowCount", WahBitmapIndex::getRowCount,
            "getCapacity", WahBitmapIndex::getCapacity,
            "getValueCount", WahBitmapIndex::getValueCount,
            "getValueAt", Snapshot::values));

    private static final Map<String, BiFunction<WahBitmapIndex, Integer, Object>> OF_BITMAP =
        new TreeMap<>(Map.of(
            "getLength", WahBitmapIndex::getLength,
            "testBit", Snapshot::bits,
            "countBits", WahBitmapIndex::countBits,
            "nextSetRow", Snapshot::setRows,
            "getWordCount", WahBitmapIndex::getWordCount,
            "getWord", Snapshot::words));

    private Snapshot() {
    }

    static List<String> of(WahBitmapIndex x) {
        return without(x, NO_ID);
    }

    /** Everything but what is told of one bitmap. */
    static List<String> without(WahBitmapIndex x, int left) {
        List<String> lines = new ArrayList<>();
        for (String method : methods()) {
            addLines(lines, method, x, left);
        }
        return lines;
    }

    static List<String> methods() {
        List<String> names = new ArrayList<>(OF_INDEX.keySet());
        names.addAll(OF_BITMAP.keySet());
        return names;
    }

    static List<String> by(String method, WahBitmapIndex x) {
        List<String> lines = new ArrayList<>();
        addLines(lines, method, x, NO_ID);
        return lines;
    }

    /** What is told of one bitmap alone; its id is left out, to compare it with another one. */
    static List<String> ofBitmap(WahBitmapIndex x, int id) {
        List<String> lines = new ArrayList<>();
        for (String method : OF_BITMAP.keySet()) {
            lines.add(method + " " + OF_BITMAP.get(method).apply(x, id));
        }
        return lines;
    }

    static List<String> ofBitmaps(WahBitmapIndex x, List<Integer> ids) {
        List<String> lines = new ArrayList<>();
        for (int id : ids) {
            for (String line : ofBitmap(x, id)) {
                lines.add("bitmap " + id + " " + line);
            }
        }
        return lines;
    }

    private static void addLines(List<String> lines, String method, WahBitmapIndex x, int left) {
        if (OF_INDEX.containsKey(method)) {
            lines.add(method + " " + OF_INDEX.get(method).apply(x));
            return;
        }
        for (int id = -1; id <= LAST_ID; id++) {
            if (id != left) {
                lines.add(method + " of " + id + " " + OF_BITMAP.get(method).apply(x, id));
            }
        }
    }

    private static String values(WahBitmapIndex x) {
        StringBuilder text = new StringBuilder();
        for (int row = -1; row <= LAST_ROW; row++) {
            text.append(x.getValueAt(row)).append(' ');
        }
        return text.toString();
    }

    private static String bits(WahBitmapIndex x, int id) {
        StringBuilder text = new StringBuilder();
        for (int row = -1; row <= LAST_ROW; row++) {
            text.append(x.testBit(id, row) ? '1' : '0');
        }
        return text.toString();
    }

    private static String setRows(WahBitmapIndex x, int id) {
        StringBuilder text = new StringBuilder();
        int from = -1;
        // A wrong answer may lead back to an earlier row, so the steps are counted.
        for (int step = 0; step <= LAST_ROW && from < LAST_ROW; step++) {
            int row = x.nextSetRow(id, from);
            text.append(row).append(' ');
            from = row < 0 ? LAST_ROW : row + 1;
        }
        return text.toString();
    }

    private static String words(WahBitmapIndex x, int id) {
        StringBuilder text = new StringBuilder();
        for (int index = -1; index <= LAST_WORD; index++) {
            text.append(Integer.toHexString(x.getWord(id, index))).append(' ');
        }
        return text.toString();
    }
}
