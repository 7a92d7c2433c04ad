/** Promise 1: construction and start state. */
public final class Promise01ConstructionTest {
    private static final int[] ARGUMENTS = {
        Integer.MIN_VALUE, Integer.MIN_VALUE + 1, -100, -1, 0, 1, 2, 3, 4, 5, 6, 7, 8, 9, 10, 11,
        12, 13, 14, 15, 16, 17, 18, 100, 0x08421085, Integer.MAX_VALUE - 1, Integer.MAX_VALUE,
    };

    public static void main(String[] args) {
        for (int groups : ARGUMENTS) {
            for (int values : ARGUMENTS) {
                startState(groups, values);
            }
        }
        objectsAreApart();
        Due.end();
    }

    private static void startState(int groups, int values) {
        String made = "new (" + groups + ", " + values + ") ";
        WahBitmapIndex x = new WahBitmapIndex(groups, values);
        int valueCount = Math.max(1, Math.min(8, values));
        Due.due(made + "getCapacity()", x.getCapacity(), 31 * Math.max(1, Math.min(16, groups)));
        Due.due(made + "getValueCount()", x.getValueCount(), valueCount);
        Due.due(made + "getRowCount()", x.getRowCount(), 0);
        Due.due(made + "getValueAt(0)", x.getValueAt(0), -2);
        for (int id : Ids.valid(valueCount)) {
            emptyBitmap(made, x, id);
        }
        for (int id : Ids.notValid(valueCount)) {
            Due.due(made + "getLength(" + id + ")", x.getLength(id), -1);
        }
    }

    private static void emptyBitmap(String made, WahBitmapIndex x, int id) {
        Due.due(made + "getLength(" + id + ")", x.getLength(id), 0);
        Due.due(made + "getWordCount(" + id + ")", x.getWordCount(id), 0);
        Due.due(made + "getWord(" + id + ", 0)", x.getWord(id, 0), 0);
        Due.due(made + "countBits(" + id + ")", x.countBits(id), 0);
        Due.due(made + "nextSetRow(" + id + ", 0)", x.nextSetRow(id, 0), -1);
        Due.due(made + "testBit(" + id + ", 0)", x.testBit(id, 0), false);
    }

    private static void objectsAreApart() {
        WahBitmapIndex x = new WahBitmapIndex(2, 2);
        WahBitmapIndex y = new WahBitmapIndex(3, 3);
        String before = Snapshot.of(y);
        Due.taken("appendRun(1, 40)", x.appendRun(1, 40));
        Due.taken("selectRange(8, 0, 1)", x.selectRange(8, 0, 1));
        Due.due("all answers of another object", Snapshot.of(y), before);
    }
}
