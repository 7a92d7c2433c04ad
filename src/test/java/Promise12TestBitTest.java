/** Promise 12: testBit. */
public final class Promise12TestBitTest {
    public static void main(String[] args) {
        bitsOfValues();
        bitsOfRegisters();
        rowsOutside();
        rowsBeyondTheLargest();
        wrongIds();
        Due.end();
    }

    private static void bitsOfValues() {
        WahBitmapIndex x = new WahBitmapIndex(16, 8);
        for (int row = 0; row < 496; row++) {
            x.appendRow(row % 9 - 1);
        }
        for (int row = 0; row < 496; row++) {
            for (int id = 0; id < 8; id++) {
                boolean want = row % 9 - 1 == id;
                Due.due("testBit(" + id + ", " + row + ")", x.testBit(id, row), want);
            }
        }
        Due.unchanged("testBit", x, () -> x.testBit(1, 2));
    }

    private static void bitsOfRegisters() {
        WahBitmapIndex x = new WahBitmapIndex(2, 2);
        x.appendRun(0, 30);
        x.appendRun(1, 2);
        x.combine(6, 11, 1, 0);
        x.combine(5, 8, 1, 0);
        x.appendRun(1, 30);
        for (int row = 0; row < 62; row++) {
            boolean last = row == 30 || row == 31;
            Due.due("testBit(11, " + row + ")", x.testBit(11, row), last);
            Due.due("testBit(8, " + row + ")", x.testBit(8, row), row < 30);
            Due.due("testBit(9, " + row + ")", x.testBit(9, row), false);
        }
    }

    private static void rowsOutside() {
        WahBitmapIndex x = new WahBitmapIndex(2, 2);
        x.appendRun(0, 33);
        x.combine(6, 8, 0, 0);
        int[] outside = {
            -1, -31, -33, 33, 34, 61, 62, 63, 496, 0x10000000, Integer.MIN_VALUE,
            Integer.MAX_VALUE,
        };
        for (int id : new int[] {0, 8}) {
            Due.due("testBit(" + id + ", 0)", x.testBit(id, 0), true);
            Due.due("testBit(" + id + ", 32)", x.testBit(id, 32), true);
            for (int row : outside) {
                Due.due("testBit(" + id + ", " + row + ")", x.testBit(id, row), false);
            }
        }
    }

    private static void rowsBeyondTheLargest() {
        WahBitmapIndex x = Samples.full();
        for (int id : Ids.valid(8)) {
            Due.due("testBit(" + id + ", 495)", x.testBit(id, 495), id == 3 || id >= 8);
            for (int row = 496; row < 560; row++) {
                Due.due("testBit(" + id + ", " + row + ")", x.testBit(id, row), false);
            }
        }
    }

    private static void wrongIds() {
        for (int valueCount = 1; valueCount <= 8; valueCount++) {
            WahBitmapIndex x = Samples.onesEverywhere(valueCount);
            for (int id : Ids.notValid(valueCount)) {
                for (int row : new int[] {-1, 0, 1, 30, 31, 61, 62}) {
                    Due.due("testBit(" + id + ", " + row + ")", x.testBit(id, row), false);
                }
            }
        }
    }
}
