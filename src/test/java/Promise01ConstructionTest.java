import java.util.List;

/** Promise 1: construction and start state. */
public final class Promise01ConstructionTest {
    private static final int MIN = Integer.MIN_VALUE;
    private static final int MAX = Integer.MAX_VALUE;

    // 31 times 0x08421085 wraps to 31.
    private static final int[] TOO_SMALL = {MIN, MIN + 1, -100, -2, -1, 0};
    private static final int[] TOO_MANY_GROUPS = {17, 18, 100, 496, 0x08421085, MAX - 1, MAX};
    private static final int[] TOO_MANY_VALUES = {9, 10, 11, 12, 16, 100, 0x10000001, MAX - 1, MAX};

    private static final int[] ARGUMENTS = {
        MIN, MIN + 1, -100, -1, 0, 1, 2, 3, 4, 5, 6, 7, 8, 9, 10, 11, 12, 13, 14, 15, 16, 17, 18,
        100, 0x08421085, MAX - 1, MAX,
    };

    public static void main(String[] args) {
        Due.holds("accepts every int for both arguments.",
            Promise01ConstructionTest::everyPairOfArguments);
        Due.holds("groups is clamped into [MIN_GROUPS, MAX_GROUPS]: below 1 becomes 1, above 16 "
            + "becomes 16.", Promise01ConstructionTest::groupsAreClamped);
        Due.holds("capacity = 31 * clamped groups, so capacity is one of 31, 62, .., 496.",
            Promise01ConstructionTest::everyCapacity);
        Due.holds("values is clamped into [MIN_VALUES, MAX_VALUES]: below 1 becomes 1, above 8 "
            + "becomes 8.", Promise01ConstructionTest::valuesAreClamped);
        Due.holds("valueCount = clamped values.", Promise01ConstructionTest::everyValueCount);
        Due.holds("At the start N = 0, every value bitmap has length 0, and every result register "
            + "has length 0.", Promise01ConstructionTest::startLengths);
        Due.holds("Hence every valid id has length 0, no words, no 1 bits, and no set row.",
            Promise01ConstructionTest::nothingInTheBitmaps);
        Due.holds("capacity and valueCount never change afterwards.",
            Promise01ConstructionTest::sizesNeverChange);
        Due.end();
    }

    private static void everyPairOfArguments() {
        for (int groups : ARGUMENTS) {
            for (int values : ARGUMENTS) {
                WahBitmapIndex x = new WahBitmapIndex(groups, values);
                String made = "new (" + groups + ", " + values + ") ";
                int capacity = 31 * Math.max(1, Math.min(16, groups));
                Due.due(made + "getCapacity()", x.getCapacity(), capacity);
                int valueCount = Math.max(1, Math.min(8, values));
                Due.due(made + "getValueCount()", x.getValueCount(), valueCount);
                Due.taken(made + "appendRun", x.appendRun(valueCount - 1, capacity));
            }
        }
    }

    private static void groupsAreClamped() {
        for (int groups : TOO_SMALL) {
            room(groups, 31);
        }
        for (int groups : TOO_MANY_GROUPS) {
            room(groups, 496);
        }
    }

    private static void everyCapacity() {
        for (int groups = 1; groups <= 16; groups++) {
            room(groups, 31 * groups);
        }
    }

    private static void room(int groups, int want) {
        WahBitmapIndex x = new WahBitmapIndex(groups, 2);
        String made = "new (" + groups + ", 2) ";
        Due.due(made + "getCapacity()", x.getCapacity(), want);
        Due.due(made + "appendRun(1, room + 1)", x.appendRun(1, want + 1), false);
        Due.taken(made + "appendRun(1, room)", x.appendRun(1, want));
        Due.due(made + "appendRow(1) when full", x.appendRow(1), false);
        Due.due(made + "countBits(1)", x.countBits(1), want);
    }

    private static void valuesAreClamped() {
        for (int values : TOO_SMALL) {
            choice(values, 1);
        }
        for (int values : TOO_MANY_VALUES) {
            choice(values, 8);
        }
    }

    private static void everyValueCount() {
        for (int values = 1; values <= 8; values++) {
            choice(values, values);
        }
    }

    private static void choice(int values, int want) {
        WahBitmapIndex x = new WahBitmapIndex(1, values);
        String made = "new (1, " + values + ") ";
        Due.due(made + "getValueCount()", x.getValueCount(), want);
        for (int value = 0; value < 12; value++) {
            Due.due(made + "appendRow(" + value + ")", x.appendRow(value), value < want);
        }
        for (int id = 0; id < 8; id++) {
            Due.due(made + "getLength(" + id + ")", x.getLength(id), id < want ? want : -1);
            Due.due(made + "countBits(" + id + ")", x.countBits(id), id < want ? 1 : -1);
        }
    }

    private static void startLengths() {
        // What another object holds must not be seen in a new one.
        WahBitmapIndex other = Samples.largest();
        for (int groups : ARGUMENTS) {
            for (int valueCount = 1; valueCount <= 8; valueCount++) {
                WahBitmapIndex x = new WahBitmapIndex(groups, valueCount);
                Due.due("getRowCount()", x.getRowCount(), 0);
                Due.due("getValueAt(0)", x.getValueAt(0), -2);
                for (int id : Ids.valid(valueCount)) {
                    Due.due("getLength(" + id + ")", x.getLength(id), 0);
                }
            }
        }
        Due.due("rows of the other object", other.getRowCount(), 496);
    }

    private static void nothingInTheBitmaps() {
        for (int groups : ARGUMENTS) {
            for (int valueCount = 1; valueCount <= 8; valueCount++) {
                WahBitmapIndex x = new WahBitmapIndex(groups, valueCount);
                for (int id : Ids.valid(valueCount)) {
                    emptyBitmap(x, id);
                }
            }
        }
    }

    private static void emptyBitmap(WahBitmapIndex x, int id) {
        Due.due("getLength(" + id + ")", x.getLength(id), 0);
        Due.due("getWordCount(" + id + ")", x.getWordCount(id), 0);
        Due.due("countBits(" + id + ")", x.countBits(id), 0);
        for (int edge : new int[] {-31, -1, 0, 1, 30, 31, 495, 496}) {
            Due.due("getWord(" + id + ", " + edge + ")", x.getWord(id, edge), 0);
            Due.due("testBit(" + id + ", " + edge + ")", x.testBit(id, edge), false);
            Due.due("nextSetRow(" + id + ", " + edge + ")", x.nextSetRow(id, edge), -1);
        }
    }

    private static void sizesNeverChange() {
        for (int groups : new int[] {MIN, 1, 2, 15, 16, MAX}) {
            for (int values : new int[] {MIN, 1, 2, 7, 8, MAX}) {
                sizesDuringCalls(groups, values);
            }
        }
    }

    private static void sizesDuringCalls(int groups, int values) {
        WahBitmapIndex x = new WahBitmapIndex(groups, values);
        List<Integer> arguments = List.of(MIN, -2, -1, 0, 1, 7, 8, 11, 12, 31, 496, MAX);
        String before = sizes(x);
        for (int one : arguments) {
            for (int two : arguments) {
                x.appendRun(one, two);
                x.appendRow(one);
                x.selectRange(one, two, 1);
                x.combine(two, one, 8, 0);
                x.clearResult(one);
                Due.due("sizes after calls with " + one + ", " + two, sizes(x), before);
            }
        }
        x.appendRun(0, x.getCapacity() - x.getRowCount());
        Due.due("getRowCount()", x.getRowCount(), x.getCapacity());
        Due.due("sizes when full", sizes(x), before);
    }

    private static String sizes(WahBitmapIndex x) {
        return x.getCapacity() + " rows, " + x.getValueCount() + " values";
    }
}
