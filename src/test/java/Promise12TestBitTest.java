import java.util.function.Supplier;

/** Promise 12: testBit. */
public final class Promise12TestBitTest {
    private static final int MIN = Integer.MIN_VALUE;
    private static final int MAX = Integer.MAX_VALUE;

    public static void main(String[] args) {
        Due.holds("answers bit row of bitmap id. (of a value)", Promise12TestBitTest::bitsOfValues);
        Due.holds("answers bit row of bitmap id. (of a register)",
            Promise12TestBitTest::bitsOfRegisters);
        Due.holds("It answers false when id is not valid,", Promise12TestBitTest::wrongIds);
        Due.holds("or row < 0,", Promise12TestBitTest::rowsBelow);
        Due.holds("or row >= the length of the bitmap.", Promise12TestBitTest::rowsBeyond);
        Due.holds("Changes nothing.", Promise12TestBitTest::changesNothing);
        Due.end();
    }

    private static void bit(WahBitmapIndex x, int id, int row, boolean want) {
        Due.due("testBit(" + id + ", " + row + ")", x.testBit(id, row), want);
    }

    private static void bitsOfValues() {
        WahBitmapIndex x = new WahBitmapIndex(16, 8);
        for (int row = 0; row < 496; row++) {
            x.appendRow(row % 9 - 1);
        }
        for (int row = 0; row < 496; row++) {
            for (int id = 0; id < 8; id++) {
                bit(x, id, row, row % 9 - 1 == id);
            }
        }
    }

    private static void bitsOfRegisters() {
        WahBitmapIndex x = new WahBitmapIndex(2, 2);
        x.appendRun(0, 30);
        x.appendRun(1, 2);
        x.combine(6, 11, 1, 0);
        x.combine(5, 8, 1, 0);
        x.appendRun(1, 30);
        for (int row = 0; row < 62; row++) {
            bit(x, 11, row, row == 30 || row == 31);
            bit(x, 8, row, row < 30);
            bit(x, 9, row, false);
        }
    }

    private static void wrongIds() {
        int[] rows = {MIN, -1, 0, 1, 30, 31, 61, 62, MAX};
        for (int valueCount = 1; valueCount <= 8; valueCount++) {
            WahBitmapIndex x = Samples.onesEverywhere(valueCount);
            for (int id : Ids.notValid(valueCount)) {
                for (int row : rows) {
                    bit(x, id, row, false);
                }
            }
        }
    }

    private static void rowsBelow() {
        WahBitmapIndex largest = Samples.largest();
        WahBitmapIndex small = Samples.onesEverywhere(8);
        // The last one wraps to 0 when it is shifted or multiplied by 32.
        for (int row : new int[] {-1, -2, -30, -31, -32, -62, -496, MIN + 1, MIN, 0x88000000}) {
            for (int id : Ids.valid(8)) {
                bit(largest, id, row, false);
                bit(small, id, row, false);
            }
        }
    }

    /** Every bit within the length is 1, and later rows hold the same value. */
    private static void rowsBeyond() {
        for (int length = 0; length <= 93; length++) {
            WahBitmapIndex x = new WahBitmapIndex(4, 1);
            x.appendRun(0, length);
            x.combine(6, 8, 0, 0);
            bit(x, 0, length - 1, length > 0);
            bitsFrom(x, 0, length);
            x.appendRun(0, 31);
            bit(x, 8, length - 1, length > 0);
            bitsFrom(x, 8, length);
        }
        WahBitmapIndex x = Samples.largest();
        for (int id : Ids.results()) {
            bit(x, id, 495, true);
            bitsFrom(x, id, 496);
        }
        bitsFrom(x, 3, 496);
    }

    private static void bitsFrom(WahBitmapIndex x, int id, int length) {
        for (int row = length; row <= length + 64; row++) {
            bit(x, id, row, false);
        }
        for (int row : new int[] {496, 497, 512, 0x08000000, 0x10000000, MAX - 1, MAX}) {
            bit(x, id, row, false);
        }
    }

    private static void changesNothing() {
        for (Supplier<WahBitmapIndex> made : Samples.states(3)) {
            for (int id : Ids.all(3)) {
                for (int row : new int[] {MIN, -1, 0, 30, 70, 93, MAX}) {
                    String call = "testBit(" + id + ", " + row + ")";
                    Twins.readsOnly(call, made, x -> x.testBit(id, row));
                }
            }
        }
    }
}
