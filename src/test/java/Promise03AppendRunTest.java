import java.util.List;
import java.util.function.Supplier;

/** Promise 3: appendRun. */
public final class Promise03AppendRunTest {
    private static final int MIN = Integer.MIN_VALUE;
    private static final int MAX = Integer.MAX_VALUE;

    private static final int[] NEVER_VALUES = {-2, -3, 8, 9, 11, 12, 0x10000000, MIN, MAX};

    public static void main(String[] args) {
        Due.holds("value must be NULL_VALUE or in [0, valueCount-1], else refused;",
            Promise03AppendRunTest::refusesWrongValues);
        Due.holds("count must be in [1, capacity - N], else refused.",
            Promise03AppendRunTest::takesAllTheRoomAndNoMore);
        Due.holds("So count 0, any negative count, and any count larger than the free room "
            + "capacity - N are refused;", Promise03AppendRunTest::refusesWrongCounts);
        Due.holds("when N = capacity every call is refused.",
            Promise03AppendRunTest::refusesEveryCallWhenFull);
        Due.holds("A refused call answers false and changes nothing.",
            Promise03AppendRunTest::refusedCallsInEveryState);
        Due.holds("Otherwise rows N..N+count-1 get the value, N grows by count,",
            Promise03AppendRunTest::firstAndLastRowOfTheRun);
        Due.holds("every value bitmap grows to the new length N,",
            Promise03AppendRunTest::everyBitmapGrows);
        Due.holds("the new bits being 1 only in the bitmap of value (in none when value is "
            + "NULL_VALUE), and the answer is true.", Promise03AppendRunTest::newBits);
        Due.holds("Earlier rows and their bits are not changed.",
            Promise03AppendRunTest::earlierRowsStay);
        Due.holds("Result registers are not changed, neither their lengths nor their bits.",
            Promise03AppendRunTest::registersStay);
        Due.end();
    }

    private static void refusedRun(Supplier<WahBitmapIndex> made, int value, int count) {
        String call = "appendRun(" + value + ", " + count + ")";
        Twins.refused(call, made, x -> x.appendRun(value, count));
    }

    private static void refusesWrongValues() {
        for (int valueCount = 1; valueCount <= 8; valueCount++) {
            int values = valueCount;
            for (int value = -1; value < valueCount; value++) {
                WahBitmapIndex x = new WahBitmapIndex(1, valueCount);
                Due.taken("appendRun(" + value + ", 2)", x.appendRun(value, 2));
            }
            refusedRun(() -> Samples.mixed(values), valueCount, 2);
            for (int value : NEVER_VALUES) {
                refusedRun(() -> Samples.mixed(values), value, 2);
            }
        }
    }

    private static WahBitmapIndex withRows(int groups, int rows) {
        WahBitmapIndex x = new WahBitmapIndex(groups, 2);
        for (int row = 0; row < rows; row++) {
            x.appendRow(row % 3 - 1);
        }
        return x;
    }

    private static void takesAllTheRoomAndNoMore() {
        for (int groups = 1; groups <= 16; groups++) {
            int capacity = 31 * groups;
            for (int rows = 0; rows < capacity; rows += groups == 1 ? 1 : 17) {
                for (int value = -1; value <= 1; value++) {
                    roomFor(groups, rows, value);
                }
            }
        }
    }

    private static void roomFor(int groups, int rows, int value) {
        int room = 31 * groups - rows;
        takenRun(groups, rows, value, 1);
        takenRun(groups, rows, value, room);
        for (int count : new int[] {0, room + 1}) {
            WahBitmapIndex x = withRows(groups, rows);
            String call = "appendRun(" + value + ", " + count + ")";
            Due.due(call, x.appendRun(value, count), false);
            Due.due("getRowCount() after " + call, x.getRowCount(), rows);
        }
    }

    private static void takenRun(int groups, int rows, int value, int count) {
        WahBitmapIndex x = withRows(groups, rows);
        String call = "appendRun(" + value + ", " + count + ")";
        Due.taken(call, x.appendRun(value, count));
        Due.due("getRowCount() after " + call, x.getRowCount(), rows + count);
        Due.due("last row after " + call, x.getValueAt(rows + count - 1), value);
        Due.due("no row after " + call, x.getValueAt(rows + count), -2);
    }

    private static void refusesWrongCounts() {
        // With 10 rows, counts near the greatest int make N + count wrap to a small number.
        int[] wrong = {
            0, -1, -2, -10, -21, -31, 22, 23, 31, 32, 62, 496, 497, MIN, MIN + 1, MIN + 10,
            MAX - 10, MAX - 9, MAX - 1, MAX,
        };
        for (int count : wrong) {
            for (int value = -1; value <= 1; value++) {
                refusedRun(() -> withRows(1, 10), value, count);
            }
        }
    }

    private static void refusesEveryCallWhenFull() {
        int[] counts = {MIN, -496, -31, -1, 0, 1, 2, 31, 496, MAX};
        for (int groups = 1; groups <= 16; groups++) {
            int full = groups;
            for (int count : counts) {
                refusedRun(() -> withRows(full, 31 * full), -1, count);
                refusedRun(() -> withRows(full, 31 * full), 1, count);
            }
        }
    }

    private static void refusedCallsInEveryState() {
        int[][] calls = {
            {-2, 1}, {8, 1}, {MIN, 1}, {MAX, 1}, {0, 0}, {0, -1}, {-1, 0}, {0, MIN}, {0, MAX},
            {-1, MAX}, {0, 94}, {-1, 94}, {-2, 0}, {MAX, MAX}, {MIN, MIN},
        };
        for (int valueCount : new int[] {1, 3, 8}) {
            for (Supplier<WahBitmapIndex> made : Samples.states(valueCount)) {
                for (int[] call : calls) {
                    refusedRun(made, call[0], call[1]);
                }
            }
        }
    }

    private static void firstAndLastRowOfTheRun() {
        for (int rows = 0; rows < 62; rows++) {
            for (int count = 1; count <= 62 - rows; count++) {
                WahBitmapIndex x = new WahBitmapIndex(2, 3);
                Due.due("appendRun(0, " + rows + ")", x.appendRun(0, rows), rows > 0);
                Due.taken("appendRun(2, " + count + ")", x.appendRun(2, count));
                Due.due("getRowCount()", x.getRowCount(), rows + count);
                Due.due("getValueAt(N - 1)", x.getValueAt(rows - 1), rows > 0 ? 0 : -2);
                Due.due("getValueAt(N)", x.getValueAt(rows), 2);
                Due.due("getValueAt(N + count - 1)", x.getValueAt(rows + count - 1), 2);
                Due.due("getValueAt(N + count)", x.getValueAt(rows + count), -2);
                Due.due("countBits(2)", x.countBits(2), count);
            }
        }
    }

    private static void everyBitmapGrows() {
        for (int value = -1; value < 8; value++) {
            WahBitmapIndex x = new WahBitmapIndex(16, 8);
            int rows = 0;
            for (int count : new int[] {1, 29, 1, 1, 30, 31, 62, 93, 248}) {
                Due.taken("appendRun(" + value + ", " + count + ")", x.appendRun(value, count));
                rows += count;
                for (int id = 0; id < 8; id++) {
                    Due.due("getLength(" + id + ")", x.getLength(id), rows);
                }
            }
            Due.due("getRowCount()", x.getRowCount(), 496);
        }
    }

    private static void newBits() {
        for (int value = -1; value < 4; value++) {
            WahBitmapIndex x = new WahBitmapIndex(3, 4);
            Due.taken("appendRun(3, 30)", x.appendRun(3, 30));
            Due.taken("appendRun(" + value + ", 34)", x.appendRun(value, 34));
            for (int id = 0; id < 4; id++) {
                String early = (id == 3 ? "1" : "0").repeat(30);
                String late = (id == value ? "1" : "0").repeat(34);
                Due.due("bits of " + id, Read.bits(x, id), early + late);
            }
        }
    }

    private static void earlierRowsStay() {
        int[] counts = {1, 2, 30, 31, 32, 50, 92};
        for (int rows = 1; rows <= 62; rows++) {
            for (int count : counts) {
                for (int value = -1; value <= 1; value++) {
                    earlierRows(rows, value, count);
                }
            }
        }
    }

    private static void earlierRows(int rows, int value, int count) {
        WahBitmapIndex x = withRows(5, rows);
        Due.taken("appendRun(" + value + ", " + count + ")", x.appendRun(value, count));
        for (int row = 0; row < rows; row++) {
            int held = row % 3 - 1;
            Due.due("getValueAt(" + row + ")", x.getValueAt(row), held);
            Due.due("testBit(0, " + row + ")", x.testBit(0, row), held == 0);
            Due.due("testBit(1, " + row + ")", x.testBit(1, row), held == 1);
        }
    }

    /** Registers of several lengths, while the rows grow by one, by a group and to the end. */
    private static void registersStay() {
        for (int groups = 3; groups <= 16; groups++) {
            for (int value = -1; value <= 2; value++) {
                WahBitmapIndex x = Samples.mixed(groups, 3);
                List<String> before = Snapshot.ofBitmaps(x, Ids.results());
                for (int count : new int[] {1, 2, 31 * groups - 74, 1}) {
                    Due.taken("appendRun(" + value + ", " + count + ")", x.appendRun(value, count));
                    Due.same("after it", Snapshot.ofBitmaps(x, Ids.results()), before);
                }
                Due.due("getRowCount()", x.getRowCount(), 31 * groups);
                Due.due("lengths of registers", lengths(x), "20 31 0 70");
            }
        }
    }

    private static String lengths(WahBitmapIndex x) {
        return x.getLength(8) + " " + x.getLength(9) + " " + x.getLength(10) + " "
            + x.getLength(11);
    }
}
