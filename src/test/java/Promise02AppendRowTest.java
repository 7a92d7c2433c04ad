import java.util.function.Supplier;

/** Promise 2: appendRow. */
public final class Promise02AppendRowTest {
    private static final int[] NEVER_VALUES = {
        -2, -3, -31, 8, 9, 11, 12, 31, 0x10000000, Integer.MIN_VALUE, Integer.MAX_VALUE,
    };

    public static void main(String[] args) {
        Due.holds("behaves exactly as `appendRun(value, 1)`",
            Promise02AppendRowTest::actsAsRunOfOne);
        Due.holds("it answers true and appends one row holding value",
            Promise02AppendRowTest::appendsOneRow);
        Due.holds("when value is NULL_VALUE or in [0, valueCount-1] and N < capacity;",
            Promise02AppendRowTest::takesEveryValueAtEveryCount);
        Due.holds("otherwise it answers false and changes nothing. (wrong value)",
            Promise02AppendRowTest::refusesWrongValues);
        Due.holds("otherwise it answers false and changes nothing. (N = capacity)",
            Promise02AppendRowTest::refusesWhenFull);
        Due.end();
    }

    private static void actsAsRunOfOne() {
        int[] values = {
            0, 3, -1, 1, -2, 2, 4, 3, Integer.MIN_VALUE, 0, Integer.MAX_VALUE, 8, 1, 11,
        };
        for (int groups = 1; groups <= 3; groups++) {
            WahBitmapIndex byRow = new WahBitmapIndex(groups, 4);
            WahBitmapIndex byRun = new WahBitmapIndex(groups, 4);
            for (int step = 0; step < 60 * groups; step++) {
                int value = values[step % values.length];
                String call = "appendRow(" + value + ") at step " + step;
                Due.due(call, byRow.appendRow(value), byRun.appendRun(value, 1));
                Due.same("after " + call, Snapshot.of(byRow), Snapshot.of(byRun));
            }
            Due.due("getRowCount()", byRow.getRowCount(), 31 * groups);
        }
    }

    private static void appendsOneRow() {
        WahBitmapIndex x = new WahBitmapIndex(1, 3);
        Due.taken("appendRow(0)", x.appendRow(0));
        Due.due("getRowCount()", x.getRowCount(), 1);
        Due.taken("appendRow(2)", x.appendRow(2));
        Due.taken("appendRow(-1)", x.appendRow(-1));
        Due.taken("appendRow(0)", x.appendRow(0));
        Due.due("getRowCount()", x.getRowCount(), 4);
        Due.due("bits of 0", Read.bits(x, 0), "1001");
        Due.due("bits of 1", Read.bits(x, 1), "0000");
        Due.due("bits of 2", Read.bits(x, 2), "0100");
        Due.due("getValueAt(0)", x.getValueAt(0), 0);
        Due.due("getValueAt(1)", x.getValueAt(1), 2);
        Due.due("getValueAt(2)", x.getValueAt(2), -1);
        Due.due("getValueAt(3)", x.getValueAt(3), 0);
    }

    /** Each value is tried as the first row, as the last one, and as every row between. */
    private static void takesEveryValueAtEveryCount() {
        for (int groups : new int[] {1, 2, 16}) {
            for (int valueCount = 1; valueCount <= 8; valueCount++) {
                for (int value = -1; value < valueCount; value++) {
                    fillWith(groups, valueCount, value);
                }
            }
        }
    }

    private static void fillWith(int groups, int valueCount, int value) {
        WahBitmapIndex x = new WahBitmapIndex(groups, valueCount);
        for (int row = 0; row < 31 * groups; row++) {
            Due.taken("appendRow(" + value + ") at N = " + row, x.appendRow(value));
            Due.due("getRowCount()", x.getRowCount(), row + 1);
            Due.due("getValueAt(" + row + ")", x.getValueAt(row), value);
        }
    }

    private static void refusesWrongValues() {
        for (int valueCount = 1; valueCount <= 8; valueCount++) {
            for (Supplier<WahBitmapIndex> made : Samples.states(valueCount)) {
                refusedRow(made, valueCount);
                for (int value : NEVER_VALUES) {
                    refusedRow(made, value);
                }
            }
        }
    }

    private static void refusesWhenFull() {
        for (int groups = 1; groups <= 16; groups++) {
            int rows = 31 * groups;
            for (int value = -1; value <= 1; value++) {
                refusedRow(() -> full(rows), value);
            }
        }
    }

    private static WahBitmapIndex full(int rows) {
        WahBitmapIndex x = new WahBitmapIndex(rows / 31, 2);
        for (int row = 0; row < rows; row++) {
            Due.taken("appendRow at row " + row, x.appendRow(row % 3 - 1));
        }
        x.selectRange(9, 1, 1);
        return x;
    }

    private static void refusedRow(Supplier<WahBitmapIndex> made, int value) {
        Twins.refused("appendRow(" + value + ")", made, x -> x.appendRow(value));
    }
}
