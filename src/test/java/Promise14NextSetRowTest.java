/** Promise 14: nextSetRow. */
public final class Promise14NextSetRowTest {
    public static void main(String[] args) {
        handWritten();
        everyStart();
        registerShorterThanRows();
        rowsBeyondTheLargest();
        wrongIds();
        Due.end();
    }

    private static void handWritten() {
        WahBitmapIndex x = new WahBitmapIndex(16, 2);
        x.appendRun(0, 5);
        x.appendRow(1);
        x.appendRun(0, 100);
        x.appendRow(1);
        x.appendRun(-1, 40);
        next(x, 1, Integer.MIN_VALUE, 5);
        next(x, 1, -1, 5);
        next(x, 1, 0, 5);
        next(x, 1, 5, 5);
        next(x, 1, 6, 106);
        next(x, 1, 106, 106);
        next(x, 1, 107, -1);
        next(x, 1, 146, -1);
        next(x, 1, 147, -1);
        next(x, 1, 496, -1);
        next(x, 1, Integer.MAX_VALUE, -1);
        next(x, 0, Integer.MIN_VALUE, 0);
        next(x, 0, -1, 0);
        next(x, 0, 0, 0);
        next(x, 0, 1, 1);
        next(x, 0, 5, 6);
        next(x, 0, 105, 105);
        next(x, 0, 106, -1);
        next(x, 8, 0, -1);
        Due.unchanged("nextSetRow", x, () -> x.nextSetRow(1, 6));
    }

    private static void next(WahBitmapIndex x, int id, int from, int want) {
        Due.due("nextSetRow(" + id + ", " + from + ")", x.nextSetRow(id, from), want);
    }

    private static void everyStart() {
        WahBitmapIndex x = new WahBitmapIndex(16, 1);
        for (int row = 0; row < 496; row++) {
            x.appendRow(row % 31 == 0 || row % 31 == 30 || row == 495 ? 0 : -1);
        }
        int want = -1;
        for (int from = 495; from >= 0; from--) {
            want = x.getValueAt(from) == 0 ? from : want;
            next(x, 0, from, want);
        }
        next(x, 0, 496, -1);
    }

    private static void registerShorterThanRows() {
        WahBitmapIndex x = new WahBitmapIndex(2, 1);
        x.appendRun(0, 20);
        x.combine(6, 8, 0, 0);
        x.combine(5, 9, 0, 0);
        x.appendRun(0, 20);
        next(x, 8, 19, 19);
        next(x, 8, 20, -1);
        next(x, 9, -7, -1);
        next(x, 0, 20, 20);
    }

    private static void rowsBeyondTheLargest() {
        WahBitmapIndex x = Samples.full();
        for (int id : Ids.valid(8)) {
            boolean ones = id == 3 || id >= 8;
            next(x, id, 0, ones ? 0 : -1);
            next(x, id, 495, ones ? 495 : -1);
            for (int from = 496; from < 560; from++) {
                next(x, id, from, -1);
            }
        }
    }

    private static void wrongIds() {
        for (int valueCount = 1; valueCount <= 8; valueCount++) {
            WahBitmapIndex x = Samples.onesEverywhere(valueCount);
            for (int id : Ids.notValid(valueCount)) {
                for (int from : new int[] {Integer.MIN_VALUE, -1, 0, 30, 62, Integer.MAX_VALUE}) {
                    next(x, id, from, -1);
                }
            }
        }
    }
}
