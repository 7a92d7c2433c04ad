/** Promise 2: appendRow. */
public final class Promise02AppendRowTest {
    public static void main(String[] args) {
        appendsOneRow();
        refusesWrongValues();
        refusesWhenFull();
        actsAsRunOfOne();
        Due.end();
    }

    private static void appendsOneRow() {
        WahBitmapIndex x = new WahBitmapIndex(1, 3);
        Due.taken("appendRow(0)", x.appendRow(0));
        Due.due("getRowCount()", x.getRowCount(), 1);
        Due.taken("appendRow(2)", x.appendRow(2));
        Due.taken("appendRow(-1)", x.appendRow(-1));
        Due.taken("appendRow(0)", x.appendRow(0));
        Due.due("getRowCount()", x.getRowCount(), 4);
        Due.due("bits of 0", Snapshot.bits(x, 0), "1001");
        Due.due("bits of 1", Snapshot.bits(x, 1), "0000");
        Due.due("bits of 2", Snapshot.bits(x, 2), "0100");
        Due.due("getValueAt(0)", x.getValueAt(0), 0);
        Due.due("getValueAt(1)", x.getValueAt(1), 2);
        Due.due("getValueAt(2)", x.getValueAt(2), -1);
        Due.due("getValueAt(3)", x.getValueAt(3), 0);
    }

    private static void refusesWrongValues() {
        for (int valueCount = 1; valueCount <= 8; valueCount++) {
            WahBitmapIndex x = new WahBitmapIndex(2, valueCount);
            Due.taken("appendRow(last value)", x.appendRow(valueCount - 1));
            int[] wrong = {
                valueCount, valueCount + 1, 8, 9, 11, 12, -2, -3, 0x10000000,
                Integer.MIN_VALUE, Integer.MAX_VALUE,
            };
            for (int value : wrong) {
                Due.refused("appendRow(" + value + ")", x, () -> x.appendRow(value));
            }
        }
    }

    private static void refusesWhenFull() {
        for (int groups : new int[] {1, 2, 16}) {
            WahBitmapIndex x = new WahBitmapIndex(groups, 2);
            for (int row = 0; row < 31 * groups; row++) {
                Due.taken("appendRow at row " + row, x.appendRow(row % 3 - 1));
            }
            Due.due("getRowCount()", x.getRowCount(), 31 * groups);
            for (int value = -1; value <= 1; value++) {
                int refusedValue = value;
                Due.refused("appendRow(" + value + ") when full", x, () -> x.appendRow(refusedValue));
            }
        }
    }

    private static void actsAsRunOfOne() {
        WahBitmapIndex byRow = new WahBitmapIndex(3, 4);
        WahBitmapIndex byRun = new WahBitmapIndex(3, 4);
        for (int step = 0; step < 130; step++) {
            int value = step * step % 7 - 2;
            String call = "appendRow(" + value + ") at step " + step;
            Due.due(call, byRow.appendRow(value), byRun.appendRun(value, 1));
            Due.due("all answers after " + call, Snapshot.of(byRow), Snapshot.of(byRun));
        }
    }
}
