import java.util.function.Supplier;

/** Promise 11: getLength. */
public final class Promise11LengthTest {
    public static void main(String[] args) {
        Due.holds("answers the length L of bitmap id: N for a value bitmap,",
            Promise11LengthTest::valueBitmapsHaveTheRowCount);
        Due.holds("the register's own length for a result register.",
            Promise11LengthTest::registersHaveTheirOwn);
        Due.holds("It answers -1 when id is not valid.", Promise11LengthTest::wrongIds);
        Due.holds("Changes nothing.", Promise11LengthTest::changesNothing);
        Due.end();
    }

    private static void valueBitmapsHaveTheRowCount() {
        for (int groups : new int[] {1, 2, 16}) {
            WahBitmapIndex x = new WahBitmapIndex(groups, 3);
            for (int rows = 0; rows <= 31 * groups; rows++) {
                for (int id = 0; id < 3; id++) {
                    Due.due("getLength(" + id + ")", x.getLength(id), rows);
                }
                for (int id : Ids.results()) {
                    Due.due("getLength(" + id + ")", x.getLength(id), 0);
                }
                x.appendRow(rows % 4 - 1);
            }
        }
    }

    private static void registersHaveTheirOwn() {
        WahBitmapIndex x = new WahBitmapIndex(2, 1);
        for (int id : Ids.results()) {
            x.appendRun(-1, 11);
            x.selectRange(id, 0, 0);
        }
        x.appendRow(0);
        Due.due("getLength(8)", x.getLength(8), 11);
        Due.due("getLength(9)", x.getLength(9), 22);
        Due.due("getLength(10)", x.getLength(10), 33);
        Due.due("getLength(11)", x.getLength(11), 44);
        Due.due("getLength(0)", x.getLength(0), 45);
        x.combine(6, 11, 8, 0);
        Due.due("getLength(11) of a copy", x.getLength(11), 11);
        x.clearResult(11);
        Due.due("getLength(11) when cleared", x.getLength(11), 0);
        for (int id : Ids.results()) {
            Due.due("getLength(" + id + ")", Samples.largest().getLength(id), 496);
        }
    }

    private static void wrongIds() {
        for (int valueCount = 1; valueCount <= 8; valueCount++) {
            for (Supplier<WahBitmapIndex> made : Samples.states(valueCount)) {
                for (int id : Ids.notValid(valueCount)) {
                    Due.due("getLength(" + id + ")", made.get().getLength(id), -1);
                }
            }
        }
    }

    private static void changesNothing() {
        for (Supplier<WahBitmapIndex> made : Samples.states(3)) {
            for (int id : Ids.all(3)) {
                Twins.readsOnly("getLength(" + id + ")", made, x -> x.getLength(id));
            }
        }
    }
}
