import java.util.function.Supplier;

/** Promise 13: countBits. */
public final class Promise13CountBitsTest {
    public static void main(String[] args) {
        Due.holds("answers the number of 1 bits of bitmap id,",
            Promise13CountBitsTest::countsOfValues);
        Due.holds("that is the number of r with testBit(id, r) true;",
            Promise13CountBitsTest::countsAsBitsTell);
        Due.holds("it lies in [0, getLength(id)].", Promise13CountBitsTest::leastAndGreatest);
        Due.holds("It answers -1 when id is not valid.", Promise13CountBitsTest::wrongIds);
        Due.holds("Changes nothing.", Promise13CountBitsTest::changesNothing);
        Due.end();
    }

    private static void countsOfValues() {
        WahBitmapIndex x = new WahBitmapIndex(16, 3);
        int[] want = new int[3];
        for (int row = 0; row < 496; row++) {
            int value = row * row % 17 % 4 - 1;
            x.appendRow(value);
            if (value >= 0) {
                want[value]++;
            }
            for (int id = 0; id < 3; id++) {
                Due.due("countBits(" + id + ")", x.countBits(id), want[id]);
            }
        }
    }

    private static void countsAsBitsTell() {
        for (int valueCount = 1; valueCount <= 8; valueCount++) {
            for (Supplier<WahBitmapIndex> made : Samples.states(valueCount)) {
                WahBitmapIndex x = made.get();
                for (int id : Ids.valid(valueCount)) {
                    int want = 0;
                    for (int row = -40; row < 600; row++) {
                        want += x.testBit(id, row) ? 1 : 0;
                    }
                    Due.due("countBits(" + id + ")", x.countBits(id), want);
                }
            }
        }
    }

    /** All ones and all zeros of every length, while the column goes on after them. */
    private static void leastAndGreatest() {
        for (int length = 0; length <= 496; length++) {
            WahBitmapIndex x = new WahBitmapIndex(16, 2);
            x.appendRun(1, length);
            Due.due("countBits(1)", x.countBits(1), length);
            Due.due("countBits(0)", x.countBits(0), 0);
            x.combine(5, 8, 0, 0);
            x.combine(5, 9, 1, 0);
            x.appendRun(1, 496 - length);
            Due.due("countBits(8)", x.countBits(8), length);
            Due.due("countBits(9)", x.countBits(9), 0);
            Due.due("countBits(10)", x.countBits(10), 0);
            Due.due("countBits(1)", x.countBits(1), 496);
        }
    }

    private static void wrongIds() {
        for (int valueCount = 1; valueCount <= 8; valueCount++) {
            WahBitmapIndex ones = Samples.onesEverywhere(valueCount);
            WahBitmapIndex none = new WahBitmapIndex(1, valueCount);
            for (int id : Ids.notValid(valueCount)) {
                Due.due("countBits(" + id + ")", ones.countBits(id), -1);
                Due.due("countBits(" + id + ") without rows", none.countBits(id), -1);
            }
        }
    }

    private static void changesNothing() {
        for (Supplier<WahBitmapIndex> made : Samples.states(3)) {
            for (int id : Ids.all(3)) {
                Twins.readsOnly("countBits(" + id + ")", made, x -> x.countBits(id));
            }
        }
    }
}
