/** Promise 5: selectRange. */
public final class Promise05SelectRangeTest {
    private static final int[] BOUNDS = {
        Integer.MIN_VALUE, -3, -2, -1, 0, 1, 2, 3, 4, 5, 8, 12, Integer.MAX_VALUE,
    };

    public static void main(String[] args) {
        handWritten();
        everyBound();
        laterRowsDoNotCount();
        shorterThanBefore();
        registersAreNotValues();
        onlyDestinationChanges();
        refusesWrongDestination();
        Due.end();
    }

    /** The rows 0, 1, null, 2, 3, null, 1. */
    private static WahBitmapIndex column() {
        WahBitmapIndex x = new WahBitmapIndex(2, 4);
        for (int value : new int[] {0, 1, -1, 2, 3, -1, 1}) {
            x.appendRow(value);
        }
        return x;
    }

    private static void handWritten() {
        select(0, 3, "1101101");
        select(1, 2, "0101001");
        select(1, 1, "0100001");
        select(3, 3, "0000100");
        select(2, 1, "0000000");
        select(-1, -1, "0000000");
        select(-1, 0, "1000000");
        select(-5, 100, "1101101");
        select(4, 100, "0000000");
        select(Integer.MIN_VALUE, Integer.MAX_VALUE, "1101101");
        select(Integer.MAX_VALUE, Integer.MIN_VALUE, "0000000");
    }

    private static void select(int lo, int hi, String want) {
        for (int dst : Ids.results()) {
            WahBitmapIndex x = column();
            String call = "selectRange(" + dst + ", " + lo + ", " + hi + ")";
            Due.taken(call, x.selectRange(dst, lo, hi));
            Due.due("getLength after " + call, x.getLength(dst), 7);
            Due.due("bits after " + call, Snapshot.bits(x, dst), want);
        }
    }

    private static void everyBound() {
        WahBitmapIndex x = new WahBitmapIndex(3, 4);
        for (int row = 0; row < 93; row++) {
            x.appendRow(row * row % 11 % 5 - 1);
        }
        for (int lo : BOUNDS) {
            for (int hi : BOUNDS) {
                Due.taken("selectRange", x.selectRange(8, lo, hi));
                for (int row = 0; row < 93; row++) {
                    int value = x.getValueAt(row);
                    boolean want = value != -1 && lo <= value && value <= hi;
                    String call = "row " + row + " in [" + lo + ", " + hi + "]";
                    Due.due(call, x.testBit(8, row), want);
                }
            }
        }
    }

    private static void laterRowsDoNotCount() {
        WahBitmapIndex x = column();
        Due.taken("selectRange(9, 0, 3)", x.selectRange(9, 0, 3));
        String before = Snapshot.bitmap(x, 9);
        Due.taken("appendRun(1, 50)", x.appendRun(1, 50));
        Due.due("register after appending", Snapshot.bitmap(x, 9), before);
        WahBitmapIndex empty = new WahBitmapIndex(1, 1);
        Due.taken("selectRange without rows", empty.selectRange(8, 0, 0));
        Due.due("getLength(8)", empty.getLength(8), 0);
    }

    private static void shorterThanBefore() {
        WahBitmapIndex x = new WahBitmapIndex(2, 2);
        x.appendRun(0, 40);
        Due.taken("selectRange(8, 0, 1)", x.selectRange(8, 0, 1));
        Due.taken("selectRange(8, 1, 1)", x.selectRange(8, 1, 1));
        Due.due("bits of 8", Snapshot.bits(x, 8), "0".repeat(40));
        x.appendRun(1, 22);
        Due.taken("selectRange(8, 1, 1)", x.selectRange(8, 1, 1));
        Due.due("bits of 8", Snapshot.bits(x, 8), "0".repeat(40) + "1".repeat(22));
    }

    private static void registersAreNotValues() {
        WahBitmapIndex x = Samples.nullRowsAndOnes();
        Due.taken("selectRange(9, 0, 100)", x.selectRange(9, 0, 100));
        Due.due("bits of 9", Snapshot.bits(x, 9), "0".repeat(20));
    }

    private static void onlyDestinationChanges() {
        for (int dst : Ids.results()) {
            WahBitmapIndex x = column();
            for (int id : Ids.results()) {
                x.combine(5, id, id - 8, 0);
            }
            String before = Snapshot.of(x).replace(Snapshot.bitmap(x, dst), "");
            Due.taken("selectRange(" + dst + ", 0, 1)", x.selectRange(dst, 0, 1));
            String after = Snapshot.of(x).replace(Snapshot.bitmap(x, dst), "");
            Due.due("all but " + dst, after, before);
        }
    }

    private static void refusesWrongDestination() {
        WahBitmapIndex x = column();
        x.selectRange(8, 0, 0);
        for (int dst : Ids.notResults()) {
            Due.refused("selectRange(" + dst + ", 0, 3)", x, () -> x.selectRange(dst, 0, 3));
        }
    }
}
