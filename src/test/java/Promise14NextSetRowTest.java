import java.util.function.Supplier;

/** Promise 14: nextSetRow. */
public final class Promise14NextSetRowTest {
    private static final int MIN = Integer.MIN_VALUE;
    private static final int MAX = Integer.MAX_VALUE;

    public static void main(String[] args) {
        Due.holds("answers the least r with r >= from, r >= 0, r < the length of bitmap id and "
            + "bit r equal to 1.", Promise14NextSetRowTest::leastRow);
        Due.holds("r >= from", Promise14NextSetRowTest::everyStart);
        Due.holds("r < the length of bitmap id", Promise14NextSetRowTest::rowsBeyondTheLength);
        Due.holds("from may be any int: a negative from searches from row 0;",
            Promise14NextSetRowTest::negativeStarts);
        Due.holds("a from at or beyond the length finds nothing.",
            Promise14NextSetRowTest::startsAtOrBeyondTheLength);
        Due.holds("It answers -1 when there is no such r", Promise14NextSetRowTest::noSuchRow);
        Due.holds("or id is not valid.", Promise14NextSetRowTest::wrongIds);
        Due.holds("Changes nothing.", Promise14NextSetRowTest::changesNothing);
        Due.end();
    }

    private static void next(WahBitmapIndex x, int id, int from, int want) {
        Due.due("nextSetRow(" + id + ", " + from + ")", x.nextSetRow(id, from), want);
    }

    private static void leastRow() {
        WahBitmapIndex x = new WahBitmapIndex(16, 2);
        x.appendRun(0, 5);
        x.appendRow(1);
        x.appendRun(0, 100);
        x.appendRow(1);
        x.appendRun(-1, 40);
        next(x, 1, 0, 5);
        next(x, 1, 4, 5);
        next(x, 1, 5, 5);
        next(x, 1, 6, 106);
        next(x, 1, 106, 106);
        next(x, 1, 107, -1);
        next(x, 0, 0, 0);
        next(x, 0, 1, 1);
        next(x, 0, 5, 6);
        next(x, 0, 105, 105);
        next(x, 0, 106, -1);
    }

    private static void everyStart() {
        WahBitmapIndex x = new WahBitmapIndex(16, 1);
        for (int row = 0; row < 496; row++) {
            x.appendRow(row % 31 == 0 || row % 31 == 30 ? 0 : -1);
        }
        x.combine(6, 8, 0, 0);
        int want = -1;
        for (int from = 495; from >= 0; from--) {
            want = x.getValueAt(from) == 0 ? from : want;
            next(x, 0, from, want);
            next(x, 8, from, want);
        }
    }

    /** A register of ones and one of zeros keep to their length while the column goes on. */
    private static void rowsBeyondTheLength() {
        for (int length = 1; length <= 93; length++) {
            WahBitmapIndex x = new WahBitmapIndex(4, 2);
            x.appendRun(0, length);
            x.combine(6, 8, 0, 0);
            x.combine(5, 9, 0, 0);
            x.appendRun(0, 31);
            next(x, 8, length - 1, length - 1);
            next(x, 8, length, -1);
            next(x, 9, 0, -1);
            next(x, 9, length - 1, -1);
            next(x, 0, length, length);
            next(x, 0, length + 30, length + 30);
            next(x, 0, length + 31, -1);
        }
    }

    private static void negativeStarts() {
        WahBitmapIndex x = new WahBitmapIndex(16, 3);
        x.appendRow(0);
        x.appendRun(-1, 40);
        x.appendRow(1);
        x.combine(5, 8, 0, 0);
        for (int from : new int[] {-1, -2, -30, -31, -32, -496, MIN + 1, MIN}) {
            next(x, 0, from, 0);
            next(x, 1, from, 41);
            next(x, 2, from, -1);
            next(x, 8, from, 1);
            next(x, 9, from, -1);
        }
    }

    private static void startsAtOrBeyondTheLength() {
        for (int length = 0; length <= 496; length++) {
            WahBitmapIndex x = new WahBitmapIndex(16, 1);
            x.appendRun(0, length);
            x.combine(6, 11, 0, 0);
            next(x, 0, length - 1, length - 1);
            int[] starts = {
                length, length + 1, length + 31, 496, 497, 512, 0x10000000, MAX - 1, MAX,
            };
            for (int from : starts) {
                next(x, 0, from, -1);
                next(x, 11, from, -1);
            }
        }
    }

    private static void noSuchRow() {
        int[] starts = {MIN, -1, 0, 1, 30, 31, 61, 69, 70, 92, 93, 495, 496, MAX};
        WahBitmapIndex x = new WahBitmapIndex(3, 3);
        x.appendRun(-1, 50);
        x.appendRun(2, 43);
        x.selectRange(9, 1, 1);
        for (int from : starts) {
            next(x, 0, from, -1);
            next(x, 1, from, -1);
            next(x, 9, from, -1);
            next(x, 8, from, -1);
            next(new WahBitmapIndex(1, 1), 0, from, -1);
        }
    }

    private static void wrongIds() {
        for (int valueCount = 1; valueCount <= 8; valueCount++) {
            WahBitmapIndex x = Samples.onesEverywhere(valueCount);
            for (int id : Ids.notValid(valueCount)) {
                for (int from : new int[] {MIN, -1, 0, 30, 61, 62, MAX}) {
                    next(x, id, from, -1);
                }
            }
        }
    }

    private static void changesNothing() {
        for (Supplier<WahBitmapIndex> made : Samples.states(3)) {
            for (int id : Ids.all(3)) {
                for (int from : new int[] {MIN, -1, 0, 31, 70, 93, MAX}) {
                    String call = "nextSetRow(" + id + ", " + from + ")";
                    Twins.readsOnly(call, made, x -> x.nextSetRow(id, from));
                }
            }
        }
    }
}
