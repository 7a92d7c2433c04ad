import java.util.function.Supplier;

/** Promise 10: getValueAt. */
public final class Promise10ValueAtTest {
    private static final int MIN = Integer.MIN_VALUE;
    private static final int MAX = Integer.MAX_VALUE;

    public static void main(String[] args) {
        Due.holds("answers the value of row when 0 <= row < N: a value in [0, valueCount-1],",
            Promise10ValueAtTest::everyValue);
        Due.holds("or NULL_VALUE for a null row.", Promise10ValueAtTest::nullRows);
        Due.holds("It answers NO_ROW when row < 0", Promise10ValueAtTest::rowsBelow);
        Due.holds("or row >= N.", Promise10ValueAtTest::rowsBeyond);
        Due.holds("Changes nothing.", Promise10ValueAtTest::changesNothing);
        Due.end();
    }

    private static int valueOf(int row, int valueCount) {
        return row * 7 % 13 % (valueCount + 1) - 1;
    }

    private static void everyValue() {
        for (int valueCount = 1; valueCount <= 8; valueCount++) {
            WahBitmapIndex x = new WahBitmapIndex(16, valueCount);
            for (int row = 0; row < 496; row++) {
                x.appendRow(valueOf(row, valueCount));
                Due.due("getValueAt(N - 1)", x.getValueAt(row), valueOf(row, valueCount));
                Due.due("getValueAt(0)", x.getValueAt(0), valueOf(0, valueCount));
            }
            for (int row = 0; row < 496; row++) {
                Due.due("getValueAt(" + row + ")", x.getValueAt(row), valueOf(row, valueCount));
            }
        }
    }

    private static void nullRows() {
        WahBitmapIndex x = Samples.nullRowsAndOnes();
        for (int row = 0; row < 20; row++) {
            Due.due("getValueAt(" + row + ")", x.getValueAt(row), -1);
        }
        WahBitmapIndex y = new WahBitmapIndex(16, 1);
        y.appendRun(-1, 496);
        for (int row = 0; row < 496; row++) {
            Due.due("getValueAt(" + row + ")", y.getValueAt(row), -1);
        }
    }

    private static void rowsBelow() {
        for (Supplier<WahBitmapIndex> made : Samples.states(2)) {
            WahBitmapIndex x = made.get();
            for (int row : new int[] {-1, -2, -30, -31, -32, -496, 0x80000001, MIN + 1, MIN}) {
                Due.due("getValueAt(" + row + ")", x.getValueAt(row), -2);
            }
        }
    }

    private static void rowsBeyond() {
        for (int groups = 1; groups <= 16; groups++) {
            WahBitmapIndex x = new WahBitmapIndex(groups, 2);
            for (int rows = 0; rows < 31 * groups; rows++) {
                noRow(x, rows);
                x.appendRow(rows % 3 - 1);
            }
            noRow(x, 31 * groups);
        }
    }

    private static void noRow(WahBitmapIndex x, int rows) {
        for (int row : new int[] {rows, rows + 1, rows + 31, 496, 497, 0x10000000, MAX - 1, MAX}) {
            Due.due("getValueAt(" + row + ") of " + rows + " rows", x.getValueAt(row), -2);
        }
    }

    private static void changesNothing() {
        for (Supplier<WahBitmapIndex> made : Samples.states(3)) {
            for (int row : new int[] {MIN, -1, 0, 1, 30, 31, 69, 70, 92, 93, 496, MAX}) {
                Twins.readsOnly("getValueAt(" + row + ")", made, x -> x.getValueAt(row));
            }
        }
    }
}
