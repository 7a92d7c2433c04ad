/** Promise 11: getLength. */
public final class Promise11LengthTest {
    public static void main(String[] args) {
        valueBitmapsHaveTheRowCount();
        registersHaveTheirOwn();
        wrongIds();
        Due.end();
    }

    private static void valueBitmapsHaveTheRowCount() {
        WahBitmapIndex x = new WahBitmapIndex(2, 3);
        for (int rows = 0; rows <= 62; rows++) {
            for (int id = 0; id < 3; id++) {
                Due.due("getLength(" + id + ")", x.getLength(id), rows);
            }
            for (int id : Ids.results()) {
                Due.due("getLength(" + id + ")", x.getLength(id), 0);
            }
            x.appendRow(rows % 4 - 1);
        }
    }

    private static void registersHaveTheirOwn() {
        WahBitmapIndex x = new WahBitmapIndex(2, 1);
        for (int id : Ids.results()) {
            x.appendRun(-1, 11);
            x.selectRange(id, 0, 0);
        }
        x.appendRow(0);
        Due.due("getLength(8)", x.getLength(8), 11);
        Due.due("getLength(9)", x.getLength(9), 22);
        Due.due("getLength(10)", x.getLength(10), 33);
        Due.due("getLength(11)", x.getLength(11), 44);
        Due.due("getLength(0)", x.getLength(0), 45);
        x.combine(6, 11, 8, 0);
        Due.due("getLength(11)", x.getLength(11), 11);
        Due.unchanged("getLength", x, () -> x.getLength(11));
    }

    private static void wrongIds() {
        for (int valueCount = 1; valueCount <= 8; valueCount++) {
            WahBitmapIndex x = new WahBitmapIndex(2, valueCount);
            x.appendRun(0, 40);
            for (int id : Ids.notValid(valueCount)) {
                Due.due("getLength(" + id + ")", x.getLength(id), -1);
            }
        }
    }
}
