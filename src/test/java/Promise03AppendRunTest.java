/** Promise 3: appendRun. */
public final class Promise03AppendRunTest {
    public static void main(String[] args) {
        appendsRuns();
        crossesGroups();
        fillsExactly();
        refusesWrongValues();
        refusesWrongCounts();
        leavesResultsAlone();
        Due.end();
    }

    private static void appendsRuns() {
        WahBitmapIndex x = new WahBitmapIndex(1, 2);
        Due.taken("appendRun(1, 3)", x.appendRun(1, 3));
        Due.taken("appendRun(-1, 2)", x.appendRun(-1, 2));
        Due.taken("appendRun(0, 4)", x.appendRun(0, 4));
        Due.due("getRowCount()", x.getRowCount(), 9);
        Due.due("getLength(0)", x.getLength(0), 9);
        Due.due("getLength(1)", x.getLength(1), 9);
        Due.due("bits of 0", Snapshot.bits(x, 0), "000001111");
        Due.due("bits of 1", Snapshot.bits(x, 1), "111000000");
        Due.due("getValueAt(2)", x.getValueAt(2), 1);
        Due.due("getValueAt(3)", x.getValueAt(3), -1);
        Due.due("getValueAt(4)", x.getValueAt(4), -1);
        Due.due("getValueAt(5)", x.getValueAt(5), 0);
    }

    private static void crossesGroups() {
        WahBitmapIndex x = new WahBitmapIndex(16, 8);
        Due.taken("appendRun(7, 30)", x.appendRun(7, 30));
        Due.taken("appendRun(3, 34)", x.appendRun(3, 34));
        Due.taken("appendRun(7, 1)", x.appendRun(7, 1));
        for (int row = 0; row < 65; row++) {
            boolean isThree = row >= 30 && row < 64;
            Due.due("getValueAt(" + row + ")", x.getValueAt(row), isThree ? 3 : 7);
            for (int value = 0; value < 8; value++) {
                boolean want = value == (isThree ? 3 : 7);
                Due.due("testBit(" + value + ", " + row + ")", x.testBit(value, row), want);
            }
        }
    }

    private static void fillsExactly() {
        for (int groups = 1; groups <= 16; groups++) {
            WahBitmapIndex x = new WahBitmapIndex(groups, 1);
            int capacity = 31 * groups;
            Due.refused("appendRun(0, capacity + 1)", x, () -> x.appendRun(0, capacity + 1));
            Due.taken("appendRun(0, 5)", x.appendRun(0, 5));
            Due.refused("appendRun(0, room + 1)", x, () -> x.appendRun(0, capacity - 4));
            Due.taken("appendRun(0, room)", x.appendRun(0, capacity - 5));
            Due.due("getRowCount()", x.getRowCount(), capacity);
            Due.due("countBits(0)", x.countBits(0), capacity);
            Due.refused("appendRun(0, 1) when full", x, () -> x.appendRun(0, 1));
            Due.refused("appendRun(-1, 1) when full", x, () -> x.appendRun(-1, 1));
            Due.refused("appendRun(0, 0) when full", x, () -> x.appendRun(0, 0));
        }
    }

    private static void refusesWrongValues() {
        for (int valueCount = 1; valueCount <= 8; valueCount++) {
            WahBitmapIndex x = new WahBitmapIndex(2, valueCount);
            Due.taken("appendRun(0, 4)", x.appendRun(0, 4));
            int[] wrong = {valueCount, 8, 9, 11, 12, -2, Integer.MIN_VALUE, Integer.MAX_VALUE};
            for (int value : wrong) {
                Due.refused("appendRun(" + value + ", 2)", x, () -> x.appendRun(value, 2));
            }
        }
    }

    private static void refusesWrongCounts() {
        WahBitmapIndex x = new WahBitmapIndex(1, 2);
        Due.taken("appendRun(1, 10)", x.appendRun(1, 10));
        int[] wrong = {
            0, -1, -10, -21, -31, 22, 31, 32, 496, Integer.MIN_VALUE, Integer.MIN_VALUE + 1,
            Integer.MAX_VALUE - 9, Integer.MAX_VALUE,
        };
        for (int count : wrong) {
            Due.refused("appendRun(1, " + count + ")", x, () -> x.appendRun(1, count));
            Due.refused("appendRun(-1, " + count + ")", x, () -> x.appendRun(-1, count));
        }
    }

    private static void leavesResultsAlone() {
        WahBitmapIndex x = new WahBitmapIndex(4, 2);
        Due.taken("appendRun(0, 20)", x.appendRun(0, 20));
        Due.taken("combine copy", x.combine(6, 8, 0, 0));
        Due.taken("combine not", x.combine(5, 9, 0, 0));
        Due.taken("selectRange", x.selectRange(10, 0, 1));
        StringBuilder before = new StringBuilder();
        StringBuilder after = new StringBuilder();
        for (int id : Ids.results()) {
            before.append(Snapshot.bitmap(x, id));
        }
        Due.taken("appendRun(0, 60)", x.appendRun(0, 60));
        Due.taken("appendRun(1, 44)", x.appendRun(1, 44));
        for (int id : Ids.results()) {
            after.append(Snapshot.bitmap(x, id));
        }
        Due.due("result registers after appending", after.toString(), before.toString());
    }
}
