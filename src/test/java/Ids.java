import java.util.ArrayList;
import java.util.List;

/** The ids that are worth trying on an index. */
final class Ids {
    // The last four wrap to a small number when they are multiplied by 16 or 31.
    private static final int[] NEVER_VALID = {
        Integer.MIN_VALUE, -1000, -8, -2, -1, 12, 13, 16, 31, 496, Integer.MAX_VALUE,
        0x10000000, 0x10000008, 0xF0000000, 0x80000008,
    };

    private Ids() {
    }

    static List<Integer> results() {
        return List.of(8, 9, 10, 11);
    }

    static List<Integer> values(int valueCount) {
        List<Integer> ids = new ArrayList<>();
        for (int value = 0; value < valueCount; value++) {
            ids.add(value);
        }
        return ids;
    }

    static List<Integer> valid(int valueCount) {
        List<Integer> ids = values(valueCount);
        ids.addAll(results());
        return ids;
    }

    static List<Integer> notValid(int valueCount) {
        List<Integer> ids = new ArrayList<>();
        for (int id : NEVER_VALID) {
            ids.add(id);
        }
        for (int id = valueCount; id < 8; id++) {
            ids.add(id);
        }
        return ids;
    }

    static List<Integer> all(int valueCount) {
        List<Integer> ids = valid(valueCount);
        ids.addAll(notValid(valueCount));
        return ids;
    }

    static List<Integer> notResults() {
        return notValid(0);
    }
}
