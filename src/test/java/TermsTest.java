import java.util.List;
import java.util.function.Supplier;

/** The section 'Terms'. */
public final class TermsTest {
    private static final int MIN = Integer.MIN_VALUE;
    private static final int MAX = Integer.MAX_VALUE;

    public static void main(String[] args) {
        rows();
        bitmaps();
        Due.end();
    }

    private static void rows() {
        Due.holds("is the number of rows appended so far, 0 <= N <= capacity.",
            TermsTest::rowsUpToCapacity);
        Due.holds("Rows are numbered 0..N-1 in order of appending.", TermsTest::orderOfRows);
        Due.holds("Each row holds either a value v with 0 <= v < valueCount, or NULL_VALUE (-1).",
            TermsTest::valuesOfRows);
        Due.holds("is 31 * groups, where groups is the constructor argument after clamping.",
            TermsTest::capacities);
        Due.holds("is the constructor argument values after clamping.", TermsTest::valueCounts);
    }

    private static void bitmaps() {
        Due.holds("ids 0..valueCount-1 are", TermsTest::idsOfValues);
        Due.holds("The bitmap of value v has length N, and its bit r is 1 exactly when row r "
            + "holds v.", TermsTest::valueBitmaps);
        Due.holds("They change only by appending rows.", TermsTest::valueBitmapsStay);
        Due.holds("ids RESULT_BASE..RESULT_BASE+RESULT_COUNT-1 (8..11) are",
            TermsTest::idsOfRegisters);
        Due.holds("Each holds a bit vector with its own length L (0 <= L <= capacity),",
            TermsTest::lengthsOfRegisters);
        Due.holds("set only by combine, selectRange and clearResult. Appending rows never changes "
            + "a result register.", TermsTest::registersStay);
        Due.holds("every other int is not a valid id.", TermsTest::otherInts);
        Due.holds("In particular, when valueCount < 8, the ids valueCount..7 are not valid.",
            TermsTest::idsBetween);
        Due.holds("Reading bit r of a bitmap of length L gives 0 when r < 0 or r >= L.",
            TermsTest::bitsOutside);
    }

    private static void rowsUpToCapacity() {
        for (int groups = 1; groups <= 16; groups++) {
            WahBitmapIndex x = new WahBitmapIndex(groups, 1);
            for (int row = 0; row < 520; row++) {
                Due.due("getRowCount()", x.getRowCount(), Math.min(row, 31 * groups));
                Due.due("appendRow(0)", x.appendRow(0), row < 31 * groups);
            }
        }
    }

    private static void orderOfRows() {
        WahBitmapIndex x = new WahBitmapIndex(16, 8);
        for (int row = 0; row < 496; row++) {
            x.appendRow(row % 8);
            Due.due("getValueAt(-1)", x.getValueAt(-1), -2);
            Due.due("getValueAt(0)", x.getValueAt(0), 0);
            Due.due("getValueAt(" + row + ")", x.getValueAt(row), row % 8);
            Due.due("getValueAt(N)", x.getValueAt(row + 1), -2);
        }
    }

    private static void valuesOfRows() {
        for (int valueCount = 1; valueCount <= 8; valueCount++) {
            for (int value : new int[] {MIN, -3, -2, -1, 0, 1, 2, 3, 4, 5, 6, 7, 8, 9, MAX}) {
                WahBitmapIndex x = new WahBitmapIndex(1, valueCount);
                boolean right = value >= -1 && value < valueCount;
                Due.due("appendRow(" + value + ")", x.appendRow(value), right);
                Due.due("getValueAt(0)", x.getValueAt(0), right ? value : -2);
            }
        }
    }

    private static void capacities() {
        for (int groups = 1; groups <= 16; groups++) {
            Due.due("getCapacity()", new WahBitmapIndex(groups, 1).getCapacity(), 31 * groups);
        }
        for (int groups : new int[] {MIN, -1, 0}) {
            Due.due("getCapacity()", new WahBitmapIndex(groups, 1).getCapacity(), 31);
        }
        for (int groups : new int[] {17, 18, MAX}) {
            Due.due("getCapacity()", new WahBitmapIndex(groups, 1).getCapacity(), 496);
        }
    }

    private static void valueCounts() {
        for (int values = 1; values <= 8; values++) {
            Due.due("getValueCount()", new WahBitmapIndex(1, values).getValueCount(), values);
        }
        for (int values : new int[] {MIN, -1, 0}) {
            Due.due("getValueCount()", new WahBitmapIndex(1, values).getValueCount(), 1);
        }
        for (int values : new int[] {9, 10, MAX}) {
            Due.due("getValueCount()", new WahBitmapIndex(1, values).getValueCount(), 8);
        }
    }

    private static void idsOfValues() {
        for (int valueCount = 1; valueCount <= 8; valueCount++) {
            for (int id = 0; id < valueCount; id++) {
                valid(new WahBitmapIndex(1, valueCount), id);
            }
        }
    }

    private static void idsOfRegisters() {
        for (int valueCount = 1; valueCount <= 8; valueCount++) {
            for (int id = 8; id <= 11; id++) {
                WahBitmapIndex x = new WahBitmapIndex(1, valueCount);
                Due.taken("selectRange(" + id + ", 0, 0)", x.selectRange(id, 0, 0));
                Due.taken("clearResult(" + id + ")", x.clearResult(id));
                Due.taken("combine(6, " + id + ", 0, 0)", x.combine(6, id, 0, 0));
                valid(x, id);
            }
        }
    }

    private static void valid(WahBitmapIndex x, int id) {
        Due.due("getLength(" + id + ")", x.getLength(id), 0);
        Due.due("countBits(" + id + ")", x.countBits(id), 0);
        Due.due("getWordCount(" + id + ")", x.getWordCount(id), 0);
        Due.taken("combine(2, 8, " + id + ", 9)", x.combine(2, 8, id, 9));
        Due.taken("combine(2, 8, 9, " + id + ")", x.combine(2, 8, 9, id));
    }

    private static void valueBitmaps() {
        for (int valueCount = 1; valueCount <= 8; valueCount++) {
            WahBitmapIndex x = new WahBitmapIndex(4, valueCount);
            for (int row = 0; row < 124; row++) {
                x.appendRow(row % (valueCount + 1) - 1);
                for (int id = 0; id < valueCount; id++) {
                    Due.due("getLength(" + id + ")", x.getLength(id), row + 1);
                    boolean holds = row % (valueCount + 1) - 1 == id;
                    Due.due("testBit(" + id + ", " + row + ")", x.testBit(id, row), holds);
                }
            }
        }
    }

    /** Every call that sets a register, also with a value bitmap in the register's place. */
    private static void valueBitmapsStay() {
        for (Supplier<WahBitmapIndex> made : Samples.states(8)) {
            for (int dst = 0; dst < 12; dst++) {
                WahBitmapIndex x = made.get();
                List<String> before = Snapshot.ofBitmaps(x, Ids.values(8));
                for (int op = 0; op <= 7; op++) {
                    x.combine(op, dst, 1, 9);
                }
                x.selectRange(dst, 0, 7);
                x.clearResult(dst);
                Due.same("after calls to " + dst, Snapshot.ofBitmaps(x, Ids.values(8)), before);
            }
        }
    }

    private static void lengthsOfRegisters() {
        for (int groups = 1; groups <= 16; groups++) {
            int capacity = 31 * groups;
            WahBitmapIndex x = new WahBitmapIndex(groups, 1);
            x.appendRow(0);
            x.selectRange(9, 0, 0);
            x.appendRun(0, capacity - 2);
            x.selectRange(10, 0, 0);
            x.appendRow(0);
            x.selectRange(11, 0, 0);
            Due.due("getLength(8)", x.getLength(8), 0);
            Due.due("getLength(9)", x.getLength(9), 1);
            Due.due("getLength(10)", x.getLength(10), capacity - 1);
            Due.due("getLength(11)", x.getLength(11), capacity);
            Due.due("countBits(11)", x.countBits(11), capacity);
        }
    }

    private static void registersStay() {
        for (int value = -1; value < 8; value++) {
            WahBitmapIndex x = Samples.mixed(8);
            List<String> before = Snapshot.ofBitmaps(x, Ids.results());
            for (int row = 70; row < 93; row++) {
                Due.taken("appendRow(" + value + ")", x.appendRow(value));
                Due.same("after appending", Snapshot.ofBitmaps(x, Ids.results()), before);
            }
            WahBitmapIndex y = Samples.mixed(8);
            Due.taken("appendRun(" + value + ", 23)", y.appendRun(value, 23));
            Due.same("after appending", Snapshot.ofBitmaps(y, Ids.results()), before);
        }
    }

    private static void otherInts() {
        for (int id : Ids.notValid(8)) {
            notValid(Samples.onesEverywhere(8), id);
        }
        for (int id = -600; id <= 600; id++) {
            if (id < 0 || id > 11) {
                notValid(Samples.onesEverywhere(8), id);
            }
        }
    }

    private static void idsBetween() {
        for (int valueCount = 1; valueCount <= 8; valueCount++) {
            for (int id = 0; id < valueCount; id++) {
                WahBitmapIndex x = Samples.onesEverywhere(valueCount);
                Due.due("getLength(" + id + ")", x.getLength(id), 62);
            }
            for (int id = valueCount; id < 8; id++) {
                notValid(Samples.onesEverywhere(valueCount), id);
            }
        }
    }

    /** Every method that takes an id. */
    private static void notValid(WahBitmapIndex x, int id) {
        Due.due("getLength(" + id + ")", x.getLength(id), -1);
        Due.due("testBit(" + id + ", 0)", x.testBit(id, 0), false);
        Due.due("countBits(" + id + ")", x.countBits(id), -1);
        Due.due("nextSetRow(" + id + ", 0)", x.nextSetRow(id, 0), -1);
        Due.due("getWordCount(" + id + ")", x.getWordCount(id), -1);
        Due.due("getWord(" + id + ", 0)", x.getWord(id, 0), 0);
        Due.due("combine from " + id, x.combine(6, 8, id, 0), false);
        Due.due("combine with " + id, x.combine(2, 8, 0, id), false);
        Due.due("combine to " + id, x.combine(6, id, 0, 0), false);
        Due.due("selectRange to " + id, x.selectRange(id, 0, 0), false);
        Due.due("clearResult of " + id, x.clearResult(id), false);
    }

    /** Bits outside are asked for by testBit, and read by combine beside a longer bitmap. */
    private static void bitsOutside() {
        for (int length = 0; length <= 62; length++) {
            WahBitmapIndex x = new WahBitmapIndex(3, 2);
            x.appendRun(0, length);
            x.combine(6, 8, 0, 0);
            x.appendRun(0, 31);
            Due.due("testBit(8, L - 1)", x.testBit(8, length - 1), length > 0);
            for (int row : new int[] {MIN, -31, -1, length, length + 1, length + 30, 93, MAX}) {
                Due.due("testBit(8, " + row + ")", x.testBit(8, row), false);
            }
            x.combine(1, 9, 8, 0);
            Due.due("bits of 9", Read.bits(x, 9), "1".repeat(length) + "0".repeat(31));
        }
    }
}
