/** Promises 7 to 9: getRowCount, getCapacity and getValueCount. */
public final class Promise07To09CountsTest {
    public static void main(String[] args) {
        for (int groups = 1; groups <= 16; groups++) {
            for (int values = 1; values <= 8; values++) {
                countsWhileFilling(groups, values);
            }
        }
        otherCallsDoNotCount();
        Due.end();
    }

    private static void countsWhileFilling(int groups, int values) {
        WahBitmapIndex x = new WahBitmapIndex(groups, values);
        for (int rows = 0; rows <= 31 * groups; rows++) {
            Due.due("getRowCount()", x.getRowCount(), rows);
            Due.due("getCapacity()", x.getCapacity(), 31 * groups);
            Due.due("getValueCount()", x.getValueCount(), values);
            x.appendRow(rows % (values + 1) - 1);
        }
        Due.due("getRowCount() when full", x.getRowCount(), 31 * groups);
        Due.unchanged("the three counts", x, () -> {
            x.getRowCount();
            x.getCapacity();
            x.getValueCount();
        });
    }

    private static void otherCallsDoNotCount() {
        WahBitmapIndex x = new WahBitmapIndex(3, 5);
        x.appendRun(4, 33);
        x.appendRun(5, 3);
        x.appendRun(4, 61);
        x.appendRun(4, -1);
        x.selectRange(8, 0, 7);
        x.combine(5, 9, 8, 0);
        x.clearResult(8);
        Due.due("getRowCount()", x.getRowCount(), 33);
        Due.due("getCapacity()", x.getCapacity(), 93);
        Due.due("getValueCount()", x.getValueCount(), 5);
        x.appendRun(-1, 2);
        Due.due("getRowCount() with null rows", x.getRowCount(), 35);
    }
}
