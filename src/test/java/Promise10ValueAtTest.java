/** Promise 10: getValueAt. */
public final class Promise10ValueAtTest {
    public static void main(String[] args) {
        everyValue();
        rowsOutside();
        registersAreNotValues();
        Due.end();
    }

    private static int valueOf(int row, int valueCount) {
        return row * 7 % 13 % (valueCount + 1) - 1;
    }

    private static void everyValue() {
        for (int valueCount = 1; valueCount <= 8; valueCount++) {
            WahBitmapIndex x = new WahBitmapIndex(16, valueCount);
            for (int row = 0; row < 496; row++) {
                Due.due("getValueAt(N)", x.getValueAt(row), -2);
                x.appendRow(valueOf(row, valueCount));
                Due.due("getValueAt(N - 1)", x.getValueAt(row), valueOf(row, valueCount));
            }
            for (int row = 0; row < 496; row++) {
                Due.due("getValueAt(" + row + ")", x.getValueAt(row), valueOf(row, valueCount));
            }
            Due.due("getValueAt(496)", x.getValueAt(496), -2);
        }
    }

    private static void registersAreNotValues() {
        WahBitmapIndex x = Samples.nullRowsAndOnes();
        for (int row = 0; row < 20; row++) {
            Due.due("getValueAt(" + row + ")", x.getValueAt(row), -1);
        }
    }

    private static void rowsOutside() {
        WahBitmapIndex x = new WahBitmapIndex(2, 2);
        Due.due("getValueAt(0) without rows", x.getValueAt(0), -2);
        x.appendRun(1, 20);
        x.appendRun(-1, 20);
        Due.due("getValueAt(19)", x.getValueAt(19), 1);
        Due.due("getValueAt(20)", x.getValueAt(20), -1);
        Due.due("getValueAt(39)", x.getValueAt(39), -1);
        int[] outside = {
            -1, -2, -31, 40, 41, 61, 62, 496, 0x10000000, Integer.MIN_VALUE, Integer.MAX_VALUE,
        };
        for (int row : outside) {
            Due.due("getValueAt(" + row + ")", x.getValueAt(row), -2);
        }
        Due.unchanged("getValueAt", x, () -> x.getValueAt(3));
    }
}
