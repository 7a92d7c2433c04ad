/** Promise 13: countBits. */
public final class Promise13CountBitsTest {
    public static void main(String[] args) {
        countsOfValues();
        countsOfRegisters();
        wrongIds();
        Due.end();
    }

    private static void countsOfValues() {
        WahBitmapIndex x = new WahBitmapIndex(16, 3);
        int[] want = new int[3];
        for (int row = 0; row < 496; row++) {
            int value = row * row % 17 % 4 - 1;
            x.appendRow(value);
            if (value >= 0) {
                want[value]++;
            }
            for (int id = 0; id < 3; id++) {
                Due.due("countBits(" + id + ")", x.countBits(id), want[id]);
            }
        }
        Due.unchanged("countBits", x, () -> x.countBits(2));
    }

    private static void countsOfRegisters() {
        WahBitmapIndex x = new WahBitmapIndex(16, 2);
        x.appendRun(0, 496);
        x.combine(6, 8, 0, 0);
        x.combine(5, 9, 0, 0);
        Due.due("countBits(8)", x.countBits(8), 496);
        Due.due("countBits(9)", x.countBits(9), 0);
        Due.due("countBits(10)", x.countBits(10), 0);
        x.combine(5, 11, 9, 0);
        Due.due("countBits(11)", x.countBits(11), 496);
        WahBitmapIndex y = new WahBitmapIndex(2, 1);
        y.appendRun(-1, 32);
        y.combine(5, 8, 0, 0);
        Due.due("countBits of a negation", y.countBits(8), 32);
    }

    private static void wrongIds() {
        for (int valueCount = 1; valueCount <= 8; valueCount++) {
            WahBitmapIndex x = new WahBitmapIndex(2, valueCount);
            x.appendRun(0, 40);
            for (int id : Ids.notValid(valueCount)) {
                Due.due("countBits(" + id + ")", x.countBits(id), -1);
            }
        }
    }
}
