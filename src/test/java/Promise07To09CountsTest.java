import java.util.function.Consumer;
import java.util.function.Supplier;

/** Promises 7 to 9: getRowCount, getCapacity and getValueCount. */
public final class Promise07To09CountsTest {
    public static void main(String[] args) {
        Due.holds("`getRowCount()` answers N, from 0 up to capacity.",
            Promise07To09CountsTest::rowsFromNoneToAll);
        Due.holds("`getRowCount()` answers N", Promise07To09CountsTest::onlyTakenRowsCount);
        Due.holds("`getCapacity()` answers capacity, that is 31 * clamped groups.",
            Promise07To09CountsTest::everyCapacity);
        Due.holds("`getValueCount()` answers valueCount, the clamped values (1..8).",
            Promise07To09CountsTest::everyValueCount);
        Due.holds("Changes nothing. (getRowCount)",
            () -> changesNothing("getRowCount()", WahBitmapIndex::getRowCount));
        Due.holds("Changes nothing. (getCapacity)",
            () -> changesNothing("getCapacity()", WahBitmapIndex::getCapacity));
        Due.holds("Changes nothing. (getValueCount)",
            () -> changesNothing("getValueCount()", WahBitmapIndex::getValueCount));
        Due.end();
    }

    private static void rowsFromNoneToAll() {
        for (int groups = 1; groups <= 16; groups++) {
            for (int values = 1; values <= 8; values++) {
                rowsWhileFilling(groups, values);
            }
        }
    }

    private static void rowsWhileFilling(int groups, int values) {
        WahBitmapIndex x = new WahBitmapIndex(groups, values);
        for (int rows = 0; rows < 31 * groups; rows++) {
            Due.due("getRowCount()", x.getRowCount(), rows);
            x.appendRow(rows % (values + 1) - 1);
        }
        Due.due("getRowCount() when full", x.getRowCount(), 31 * groups);
        x.appendRow(0);
        Due.due("getRowCount() after one row too many", x.getRowCount(), 31 * groups);
    }

    private static void onlyTakenRowsCount() {
        WahBitmapIndex x = new WahBitmapIndex(3, 5);
        x.appendRun(4, 33);
        x.appendRun(5, 3);
        x.appendRun(4, 61);
        x.appendRun(4, 0);
        x.appendRun(4, -1);
        x.appendRun(4, Integer.MIN_VALUE);
        x.appendRun(4, Integer.MAX_VALUE);
        x.selectRange(8, 0, 7);
        x.combine(5, 9, 8, 0);
        x.clearResult(8);
        Due.due("getRowCount()", x.getRowCount(), 33);
        x.appendRun(-1, 2);
        Due.due("getRowCount() with null rows", x.getRowCount(), 35);
    }

    private static void everyCapacity() {
        for (int groups = -2; groups <= 20; groups++) {
            int want = groups < 1 ? 31 : groups > 16 ? 496 : 31 * groups;
            capacity(groups, want);
        }
        capacity(Integer.MIN_VALUE, 31);
        capacity(Integer.MAX_VALUE, 496);
    }

    private static void capacity(int groups, int want) {
        WahBitmapIndex x = new WahBitmapIndex(groups, 3);
        Due.due("getCapacity() of " + groups + " groups", x.getCapacity(), want);
        x.appendRun(2, want - 1);
        Due.due("getCapacity() with room for one row", x.getCapacity(), want);
        x.appendRow(2);
        Due.due("getCapacity() without room", x.getCapacity(), want);
    }

    private static void everyValueCount() {
        for (int values = -2; values <= 12; values++) {
            int want = values < 1 ? 1 : values > 8 ? 8 : values;
            Due.due("values " + values, new WahBitmapIndex(1, values).getValueCount(), want);
        }
        int fewest = new WahBitmapIndex(1, Integer.MIN_VALUE).getValueCount();
        int most = new WahBitmapIndex(1, Integer.MAX_VALUE).getValueCount();
        Due.due("values of the least int", fewest, 1);
        Due.due("values of the greatest int", most, 8);
    }

    private static void changesNothing(String call, Consumer<WahBitmapIndex> ask) {
        for (Supplier<WahBitmapIndex> made : Samples.states(3)) {
            Twins.readsOnly(call, made, ask);
        }
    }
}
