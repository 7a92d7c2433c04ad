import java.util.List;
import java.util.function.Supplier;

/** Promise 5: selectRange. */
public final class Promise05SelectRangeTest {
    private static final int MIN = Integer.MIN_VALUE;
    private static final int MAX = Integer.MAX_VALUE;

    private static final int[] BOUNDS = {
        MIN, MIN + 1, -3, -2, -1, 0, 1, 2, 3, 4, 5, 8, 12, 0x10000000, MAX - 1, MAX,
    };

    public static void main(String[] args) {
        Due.holds("dst must be a result register id (8..11), else the call is refused: it answers "
            + "false and changes nothing.", Promise05SelectRangeTest::wrongDestinations);
        Due.holds("Otherwise dst gets length N,", Promise05SelectRangeTest::everyLength);
        Due.holds("and bit r (0 <= r < N) is 1 exactly when row r is not null and "
            + "lo <= value <= hi, by plain int comparison;", Promise05SelectRangeTest::everyRange);
        Due.holds("lo and hi may be any ints.", Promise05SelectRangeTest::anyInts);
        Due.holds("lo > hi gives all zeros.", Promise05SelectRangeTest::emptyRanges);
        Due.holds("A null row is never selected, even when lo <= NULL_VALUE <= hi.",
            Promise05SelectRangeTest::nullRows);
        Due.holds("The answer is true.", Promise05SelectRangeTest::everyRegister);
        Due.holds("Only dst changes;", Promise05SelectRangeTest::onlyDestinationChanges);
        Due.holds("rows appended later do not change dst.", Promise05SelectRangeTest::laterRows);
        Due.end();
    }

    private static String named(int dst, int lo, int hi) {
        return "selectRange(" + dst + ", " + lo + ", " + hi + ")";
    }

    private static void wrongDestinations() {
        for (int valueCount : new int[] {1, 3, 8}) {
            for (Supplier<WahBitmapIndex> made : Samples.states(valueCount)) {
                for (int dst : Ids.notResults()) {
                    Twins.refused(named(dst, 0, 3), made, x -> x.selectRange(dst, 0, 3));
                    Twins.refused(named(dst, 3, 0), made, x -> x.selectRange(dst, 3, 0));
                }
            }
        }
    }

    private static void everyLength() {
        WahBitmapIndex x = new WahBitmapIndex(16, 2);
        for (int rows = 0; rows <= 496; rows++) {
            selected(x, 8, 1, 1, "10".repeat(248).substring(0, rows));
            selected(x, 9, 5, 6, "0".repeat(rows));
            x.appendRow((rows + 1) % 2);
        }
    }

    private static void selected(WahBitmapIndex x, int dst, int lo, int hi, String want) {
        String call = named(dst, lo, hi);
        Due.taken(call, x.selectRange(dst, lo, hi));
        Due.due("getLength after " + call, x.getLength(dst), want.length());
        Due.due("bits after " + call, Read.bits(x, dst), want);
    }

    /** The rows 0, 1, null, 2, 3, null, 1. */
    private static WahBitmapIndex column() {
        WahBitmapIndex x = new WahBitmapIndex(2, 4);
        for (int value : new int[] {0, 1, -1, 2, 3, -1, 1}) {
            x.appendRow(value);
        }
        return x;
    }

    private static void everyRange() {
        selected(column(), 8, 0, 3, "1101101");
        selected(column(), 8, 1, 2, "0101001");
        selected(column(), 8, 0, 0, "1000000");
        selected(column(), 8, 1, 1, "0100001");
        selected(column(), 8, 2, 3, "0001100");
        selected(column(), 8, 3, 3, "0000100");
        selected(column(), 8, 3, 4, "0000100");
        selected(column(), 8, 4, 4, "0000000");
        WahBitmapIndex x = new WahBitmapIndex(16, 8);
        for (int row = 0; row < 496; row++) {
            x.appendRow(row % 9 - 1);
        }
        for (int lo = -3; lo <= 9; lo++) {
            for (int hi = -3; hi <= 9; hi++) {
                rangeOf(x, lo, hi);
            }
        }
    }

    /** Row r of the column holds r % 9 - 1. */
    private static void rangeOf(WahBitmapIndex x, int lo, int hi) {
        Due.taken(named(11, lo, hi), x.selectRange(11, lo, hi));
        for (int row = 0; row < 496; row++) {
            int value = row % 9 - 1;
            boolean want = value >= 0 && lo <= value && value <= hi;
            Due.due("row " + row + " of " + named(11, lo, hi), x.testBit(11, row), want);
        }
    }

    private static void anyInts() {
        selected(column(), 8, MIN, MAX, "1101101");
        selected(column(), 8, MIN, MIN, "0000000");
        selected(column(), 8, MAX, MAX, "0000000");
        selected(column(), 8, MIN, 0, "1000000");
        selected(column(), 8, MIN, 1, "1100001");
        selected(column(), 8, MIN, -1, "0000000");
        selected(column(), 8, 1, MAX, "0101101");
        selected(column(), 8, 3, MAX, "0000100");
        selected(column(), 8, 4, MAX, "0000000");
        int[] values = {0, 1, -1, 2, 3, -1, 1};
        for (int lo : BOUNDS) {
            for (int hi : BOUNDS) {
                StringBuilder want = new StringBuilder();
                for (int value : values) {
                    want.append(value != -1 && lo <= value && value <= hi ? '1' : '0');
                }
                selected(column(), 10, lo, hi, want.toString());
            }
        }
    }

    private static void emptyRanges() {
        selected(column(), 8, 1, 0, "0000000");
        selected(column(), 8, 3, 0, "0000000");
        selected(column(), 8, 0, -1, "0000000");
        selected(column(), 8, 2, 1, "0000000");
        selected(column(), 8, MAX, MIN, "0000000");
        selected(column(), 8, MAX, 0, "0000000");
        selected(column(), 8, 0, MIN, "0000000");
        WahBitmapIndex x = Samples.largest();
        selected(x, 8, 4, 3, "0".repeat(496));
        Due.due("words of 8", Read.words(x, 8), "80000010");
    }

    private static void nullRows() {
        int[][] ranges = {
            {-1, -1}, {-1, 0}, {-2, 0}, {-1, 100}, {MIN, MAX}, {MIN, -1}, {-1, MAX}, {0, MAX},
        };
        for (int[] range : ranges) {
            selected(Samples.nullRowsAndOnes(), 9, range[0], range[1], "0".repeat(20));
            WahBitmapIndex x = column();
            Due.taken(named(8, range[0], range[1]), x.selectRange(8, range[0], range[1]));
            Due.due("null row 2", x.testBit(8, 2), false);
            Due.due("null row 5", x.testBit(8, 5), false);
        }
        selected(column(), 8, -1, -1, "0000000");
        selected(column(), 8, -1, 0, "1000000");
    }

    private static void everyRegister() {
        for (int valueCount : new int[] {1, 8}) {
            for (Supplier<WahBitmapIndex> made : Samples.states(valueCount)) {
                for (int dst : Ids.results()) {
                    WahBitmapIndex x = made.get();
                    Due.taken(named(dst, 0, 0), x.selectRange(dst, 0, 0));
                    Due.same("value 0 and register " + dst,
                        Snapshot.ofBitmap(x, dst), Snapshot.ofBitmap(x, 0));
                    Due.taken(named(dst, 9, 8), x.selectRange(dst, 9, 8));
                }
            }
        }
    }

    private static void onlyDestinationChanges() {
        for (Supplier<WahBitmapIndex> made : Samples.states(4)) {
            for (int dst : Ids.results()) {
                for (int hi : new int[] {-1, 0, 3, MAX}) {
                    WahBitmapIndex x = made.get();
                    List<String> before = Snapshot.without(x, dst);
                    Due.taken(named(dst, 0, hi), x.selectRange(dst, 0, hi));
                    Due.same("after " + named(dst, 0, hi), Snapshot.without(x, dst), before);
                }
            }
        }
    }

    private static void laterRows() {
        for (int rows = 0; rows <= 62; rows++) {
            WahBitmapIndex x = new WahBitmapIndex(3, 2);
            x.appendRun(1, rows);
            selected(x, 9, 0, 1, "1".repeat(rows));
            List<String> before = Snapshot.ofBitmap(x, 9);
            Due.taken("appendRun(1, 30)", x.appendRun(1, 30));
            Due.taken("appendRow(0)", x.appendRow(0));
            Due.same("register 9 after appending", Snapshot.ofBitmap(x, 9), before);
        }
    }
}
