/**
 * A bitmap index over one column of small values, whose bitmaps are read out in word-aligned
 * hybrid compressed form with groups of 31 bits.
 */
public final class WahBitmapIndex {
    public static final int GROUP_BITS = 31;
    public static final int MIN_GROUPS = 1;
    public static final int MAX_GROUPS = 16;
    public static final int MIN_VALUES = 1;
    public static final int MAX_VALUES = 8;
    public static final int RESULT_BASE = 8;
    public static final int RESULT_COUNT = 4;
    public static final int NULL_VALUE = -1;
    public static final int NO_ROW = -2;
    public static final int FILL_FLAG = 0x80000000;
    public static final int FILL_ONE = 0x40000000;
    public static final int FILL_COUNT_MASK = 0x3FFFFFFF;
    public static final int OP_AND = 1;
    public static final int OP_OR = 2;
    public static final int OP_ANDNOT = 3;
    public static final int OP_XOR = 4;
    public static final int OP_NOT = 5;
    public static final int OP_COPY = 6;

    private static final int NOT_VALID = -1;
    private static final int NOT_FOUND = -1;
    private static final int ALL_ONES = 0x7FFFFFFF;
    private static final int GROUP_SLOTS = (RESULT_BASE + RESULT_COUNT) * MAX_GROUPS;

    private final int capacity;
    private final int valueCount;
    private int rowCount = 0;

    // Group g of bitmap id stands at id * MAX_GROUPS + g. A bit at or beyond the length of its
    // bitmap is always 0: reading beyond the end and the last literal word both rest on that.
    private final int[] groupBits = new int[GROUP_SLOTS];
    private final int[] resultLengths = new int[RESULT_COUNT];

    public WahBitmapIndex(int groups, int values) {
        capacity = GROUP_BITS * clamp(groups, MIN_GROUPS, MAX_GROUPS);
        valueCount = clamp(values, MIN_VALUES, MAX_VALUES);
    }

    public boolean appendRow(int value) {
        return appendRun(value, 1);
    }

    public boolean appendRun(int value, int count) {
        if (value != NULL_VALUE && !isValueId(value)) {
            return false;
        }
        if (count < 1 || count > capacity - rowCount) {
            return false;
        }
        int end = rowCount + count;
        if (value != NULL_VALUE) {
            for (int row = rowCount; row < end; row++) {
                groupBits[value * MAX_GROUPS + row / GROUP_BITS] |= 1 << (row % GROUP_BITS);
            }
        }
        rowCount = end;
        return true;
    }

    public boolean combine(int op, int dst, int a, int b) {
        if (op < OP_AND || op > OP_COPY || !isResultId(dst) || !isValidId(a)) {
            return false;
        }
        boolean takesOne = op == OP_NOT || op == OP_COPY;
        if (!takesOne && !isValidId(b)) {
            return false;
        }
        // With one operand b may be no id at all; a in its place leaves the length at that of a.
        int second = takesOne ? a : b;
        int lengthA = lengthOf(a);
        int lengthB = lengthOf(second);
        int length = lengthA > lengthB ? lengthA : lengthB;
        // A group of dst needs only the same group of the operands, so dst may be one of them.
        for (int g = 0; g < MAX_GROUPS; g++) {
            int bitsA = groupBits[a * MAX_GROUPS + g];
            int bitsB = groupBits[second * MAX_GROUPS + g];
            int bits = combineGroups(op, bitsA, bitsB);
            groupBits[dst * MAX_GROUPS + g] = bits & groupMask(length, g);
        }
        resultLengths[dst - RESULT_BASE] = length;
        return true;
    }

    public boolean selectRange(int dst, int lo, int hi) {
        if (!isResultId(dst)) {
            return false;
        }
        for (int g = 0; g < MAX_GROUPS; g++) {
            groupBits[dst * MAX_GROUPS + g] = selectGroup(g, lo, hi);
        }
        resultLengths[dst - RESULT_BASE] = rowCount;
        return true;
    }

    public boolean clearResult(int dst) {
        if (!isResultId(dst)) {
            return false;
        }
        for (int g = 0; g < MAX_GROUPS; g++) {
            groupBits[dst * MAX_GROUPS + g] = 0;
        }
        resultLengths[dst - RESULT_BASE] = 0;
        return true;
    }

    public int getRowCount() {
        return rowCount;
    }

    public int getCapacity() {
        return capacity;
    }

    public int getValueCount() {
        return valueCount;
    }

    public int getValueAt(int row) {
        if (row < 0 || row >= rowCount) {
            return NO_ROW;
        }
        for (int value = 0; value < valueCount; value++) {
            if (bitAt(value, row)) {
                return value;
            }
        }
        return NULL_VALUE;
    }

    public int getLength(int id) {
        return isValidId(id) ? lengthOf(id) : NOT_VALID;
    }

    public boolean testBit(int id, int row) {
        if (!isValidId(id) || row < 0 || row >= lengthOf(id)) {
            return false;
        }
        return bitAt(id, row);
    }

    public int countBits(int id) {
        if (!isValidId(id)) {
            return NOT_VALID;
        }
        int length = lengthOf(id);
        int count = 0;
        for (int row = 0; row < length; row++) {
            if (bitAt(id, row)) {
                count++;
            }
        }
        return count;
    }

    public int nextSetRow(int id, int from) {
        if (!isValidId(id)) {
            return NOT_FOUND;
        }
        int length = lengthOf(id);
        for (int row = from < 0 ? 0 : from; row < length; row++) {
            if (bitAt(id, row)) {
                return row;
            }
        }
        return NOT_FOUND;
    }

    public int getWordCount(int id) {
        if (!isValidId(id)) {
            return NOT_VALID;
        }
        int length = lengthOf(id);
        int groups = groupCount(length);
        int words = 0;
        for (int g = 0; g < groups; g++) {
            if (startsWord(id, length, g)) {
                words++;
            }
        }
        return words;
    }

    public int getWord(int id, int index) {
        if (!isValidId(id) || index < 0) {
            return 0;
        }
        int length = lengthOf(id);
        int groups = groupCount(length);
        int words = 0;
        for (int g = 0; g < groups; g++) {
            if (startsWord(id, length, g)) {
                if (words == index) {
                    return wordFrom(id, length, g);
                }
                words++;
            }
        }
        return 0;
    }

    private static int clamp(int number, int least, int greatest) {
        if (number < least) {
            return least;
        }
        return number > greatest ? greatest : number;
    }

    private boolean isValueId(int id) {
        return id >= 0 && id < valueCount;
    }

    private static boolean isResultId(int id) {
        return id >= RESULT_BASE && id < RESULT_BASE + RESULT_COUNT;
    }

    private boolean isValidId(int id) {
        return isValueId(id) || isResultId(id);
    }

    private int lengthOf(int id) {
        return isResultId(id) ? resultLengths[id - RESULT_BASE] : rowCount;
    }

    private boolean bitAt(int id, int row) {
        int bits = groupBits[id * MAX_GROUPS + row / GROUP_BITS];
        return ((bits >>> (row % GROUP_BITS)) & 1) == 1;
    }

    private static int combineGroups(int op, int bitsA, int bitsB) {
        switch (op) {
            case OP_AND:
                return bitsA & bitsB;
            case OP_OR:
                return bitsA | bitsB;
            case OP_ANDNOT:
                return bitsA & ~bitsB;
            case OP_XOR:
                return bitsA ^ bitsB;
            case OP_NOT:
                return ~bitsA;
            default:
                return bitsA;
        }
    }

    /** The bits of group g that lie within the length. */
    private static int groupMask(int length, int g) {
        int within = length - g * GROUP_BITS;
        if (within <= 0) {
            return 0;
        }
        return within >= GROUP_BITS ? ALL_ONES : (1 << within) - 1;
    }

    private int selectGroup(int g, int lo, int hi) {
        int bits = 0;
        for (int value = 0; value < valueCount; value++) {
            if (lo <= value && value <= hi) {
                bits |= groupBits[value * MAX_GROUPS + g];
            }
        }
        return bits;
    }

    private static int groupCount(int length) {
        return (length + GROUP_BITS - 1) / GROUP_BITS;
    }

    private boolean isFillGroup(int id, int length, int g) {
        int bits = groupBits[id * MAX_GROUPS + g];
        boolean full = (g + 1) * GROUP_BITS <= length;
        return full && (bits == 0 || bits == ALL_ONES);
    }

    /** Whether group g begins a word of its own, and does not lengthen the fill before it. */
    private boolean startsWord(int id, int length, int g) {
        if (g == 0 || !isFillGroup(id, length, g)) {
            return true;
        }
        // Only the last group can be partial, so an equal group before this one is a fill too.
        int slot = id * MAX_GROUPS + g;
        return groupBits[slot] != groupBits[slot - 1];
    }

    private int wordFrom(int id, int length, int first) {
        int bits = groupBits[id * MAX_GROUPS + first];
        if (!isFillGroup(id, length, first)) {
            return bits;
        }
        int groups = groupCount(length);
        int end = first + 1;
        while (end < groups && !startsWord(id, length, end)) {
            end++;
        }
        int fillBit = bits == 0 ? 0 : FILL_ONE;
        return FILL_FLAG | fillBit | (end - first);
    }
}
