import java.util.List;
import java.util.function.Supplier;

/** Promise 4: combine. */
public final class Promise04CombineTest {
    private static final int MIN = Integer.MIN_VALUE;
    private static final int MAX = Integer.MAX_VALUE;

    private static final int[] WRONG_OPS = {
        0, 7, 8, 9, -1, -2, -6, 16, 0x10000001, 0x80000001, MIN, MAX,
    };

    public static void main(String[] args) {
        refusals();
        operations();
        operands();
        Due.end();
    }

    private static void refusals() {
        Due.holds("op must be one of OP_AND..OP_COPY (1..6), else refused;",
            Promise04CombineTest::wrongOps);
        Due.holds("dst must be a result register id (8..11), else refused;",
            Promise04CombineTest::wrongDestinations);
        Due.holds("a must be a valid id, else refused;", Promise04CombineTest::wrongFirst);
        Due.holds("when op is OP_AND, OP_OR, OP_ANDNOT or OP_XOR, b must be a valid id, else "
            + "refused;", Promise04CombineTest::wrongSecond);
        Due.holds("for OP_NOT and OP_COPY, b is ignored and not tested (any int is accepted "
            + "there).", Promise04CombineTest::secondIsIgnored);
        Due.holds("A refused call answers false and changes nothing.",
            Promise04CombineTest::severalFaultsAtOnce);
    }

    private static void operations() {
        Due.holds("OP_AND: L = max(La, Lb), bit = A[r] & B[r]", Promise04CombineTest::and);
        Due.holds("OP_OR: L = max(La, Lb), bit = A[r] | B[r]", Promise04CombineTest::or);
        Due.holds("OP_ANDNOT: L = max(La, Lb), bit = A[r] & !B[r]", Promise04CombineTest::andNot);
        Due.holds("OP_XOR: L = max(La, Lb), bit = A[r] ^ B[r]", Promise04CombineTest::xor);
        Due.holds("OP_NOT: L = La, bit = !A[r]", Promise04CombineTest::not);
        Due.holds("OP_COPY: L = La, bit = A[r]", Promise04CombineTest::copy);
        Due.holds("A bit beyond an operand's length reads 0.",
            Promise04CombineTest::bitsBeyondTheEnd);
    }

    private static void operands() {
        Due.holds("a and b may be any valid ids, value bitmaps or result registers,",
            Promise04CombineTest::everyPairOfOperands);
        Due.holds("and may be equal to each other;", Promise04CombineTest::equalOperands);
        Due.holds("dst may equal a or b, and the result is still computed from their contents "
            + "before the call.", Promise04CombineTest::destinationIsOperand);
        Due.holds("Only dst changes: N, the rows, the value bitmaps and the other result "
            + "registers stay as they were.", Promise04CombineTest::onlyDestinationChanges);
        Due.holds("The new length of dst never exceeds capacity.",
            Promise04CombineTest::greatestLength);
    }

    private static String named(int op, int dst, int a, int b) {
        return "combine(" + op + ", " + dst + ", " + a + ", " + b + ")";
    }

    private static void refused(Supplier<WahBitmapIndex> made, int op, int dst, int a, int b) {
        Twins.refused(named(op, dst, a, b), made, x -> x.combine(op, dst, a, b));
    }

    private static void wrongOps() {
        for (Supplier<WahBitmapIndex> made : Samples.states(3)) {
            for (int op : WRONG_OPS) {
                refused(made, op, 8, 0, 1);
                refused(made, op, 11, 9, 9);
            }
            for (int op = 1; op <= 6; op++) {
                Due.taken(named(op, 8, 0, 1), made.get().combine(op, 8, 0, 1));
            }
        }
    }

    private static void wrongDestinations() {
        for (int op = 1; op <= 6; op++) {
            for (int dst : Ids.notResults()) {
                refused(() -> Samples.mixed(8), op, dst, 0, 9);
                refused(() -> Samples.mixed(3), op, dst, 8, 11);
            }
            for (int dst : Ids.results()) {
                Due.taken(named(op, dst, 0, 1), Samples.mixed(3).combine(op, dst, 0, 1));
            }
        }
    }

    private static void wrongFirst() {
        for (int valueCount = 1; valueCount <= 8; valueCount++) {
            int values = valueCount;
            for (int op = 1; op <= 6; op++) {
                for (int a : Ids.notValid(values)) {
                    refused(() -> Samples.mixed(values), op, 8, a, 0);
                }
                for (int a : Ids.valid(values)) {
                    Due.taken(named(op, 8, a, 0), Samples.mixed(values).combine(op, 8, a, 0));
                }
            }
        }
    }

    private static void wrongSecond() {
        for (int valueCount = 1; valueCount <= 8; valueCount++) {
            int values = valueCount;
            for (int op = 1; op <= 4; op++) {
                for (int b : Ids.notValid(values)) {
                    refused(() -> Samples.mixed(values), op, 8, 0, b);
                }
                for (int b : Ids.valid(values)) {
                    Due.taken(named(op, 8, 0, b), Samples.mixed(values).combine(op, 8, 0, b));
                }
            }
        }
    }

    private static void secondIsIgnored() {
        for (int op = 5; op <= 6; op++) {
            for (int b : Ids.notValid(4)) {
                ignored(op, b);
            }
            for (int b : Ids.valid(4)) {
                ignored(op, b);
            }
            WahBitmapIndex x = lengths();
            Due.taken("combine with a longer b", x.combine(op, 11, 8, 0));
            Due.due("bits of 11", Read.bits(x, 11), (op == 5 ? "0" : "1").repeat(10));
        }
    }

    private static void ignored(int op, int b) {
        WahBitmapIndex x = Samples.truthTable();
        Due.taken(named(op, 10, 8, b), x.combine(op, 10, 8, b));
        String want = op == 5 ? "1100" : "0011";
        Due.due("bits after " + named(op, 10, 8, b), Read.bits(x, 10), want);
    }

    private static void severalFaultsAtOnce() {
        for (Supplier<WahBitmapIndex> made : Samples.states(2)) {
            refused(made, MIN, MIN, MIN, MIN);
            refused(made, MAX, MAX, MAX, MAX);
            refused(made, 0, 0, 0, 0);
            refused(made, 1, 8, 2, 2);
            refused(made, 6, 12, 2, 0);
            refused(made, 5, 7, 12, -1);
            refused(made, 7, 8, 8, -1);
        }
    }

    /**
     * Value bitmap 0 is 35 ones and 25 zeros; register 8 is 10 ones long, register 9 empty.
     * Register 10, which gets the results, is long before.
     */
    private static WahBitmapIndex lengths() {
        WahBitmapIndex x = new WahBitmapIndex(2, 2);
        x.appendRun(0, 10);
        x.combine(6, 8, 0, 0);
        x.appendRun(0, 25);
        x.appendRun(1, 25);
        x.combine(2, 10, 0, 1);
        return x;
    }

    /** What register 10 holds after the call. */
    private static void result(WahBitmapIndex x, int op, int a, int b, String want) {
        String call = named(op, 10, a, b);
        Due.taken(call, x.combine(op, 10, a, b));
        Due.due("getLength(10) after " + call, x.getLength(10), want.length());
        Due.due("bits of 10 after " + call, Read.bits(x, 10), want);
        Due.due("countBits(10) after " + call, x.countBits(10), want.replace("0", "").length());
    }

    private static String zeros(int count) {
        return "0".repeat(count);
    }

    private static String ones(int count) {
        return "1".repeat(count);
    }

    private static void and() {
        result(Samples.truthTable(), 1, 8, 9, "0001");
        result(lengths(), 1, 8, 0, ones(10) + zeros(50));
        result(lengths(), 1, 0, 8, ones(10) + zeros(50));
        result(lengths(), 1, 9, 8, zeros(10));
        result(lengths(), 1, 8, 9, zeros(10));
        result(lengths(), 1, 9, 0, zeros(60));
        result(lengths(), 1, 9, 11, "");
    }

    private static void or() {
        result(Samples.truthTable(), 2, 8, 9, "0111");
        result(lengths(), 2, 8, 0, ones(35) + zeros(25));
        result(lengths(), 2, 0, 8, ones(35) + zeros(25));
        result(lengths(), 2, 8, 1, ones(10) + zeros(25) + ones(25));
        result(lengths(), 2, 9, 8, ones(10));
        result(lengths(), 2, 8, 9, ones(10));
        result(lengths(), 2, 9, 11, "");
    }

    private static void andNot() {
        result(Samples.truthTable(), 3, 8, 9, "0010");
        result(Samples.truthTable(), 3, 9, 8, "0100");
        result(lengths(), 3, 8, 0, zeros(60));
        result(lengths(), 3, 0, 8, zeros(10) + ones(25) + zeros(25));
        result(lengths(), 3, 8, 1, ones(10) + zeros(50));
        result(lengths(), 3, 9, 8, zeros(10));
        result(lengths(), 3, 8, 9, ones(10));
        result(lengths(), 3, 9, 11, "");
    }

    private static void xor() {
        result(Samples.truthTable(), 4, 8, 9, "0110");
        result(lengths(), 4, 8, 0, zeros(10) + ones(25) + zeros(25));
        result(lengths(), 4, 0, 8, zeros(10) + ones(25) + zeros(25));
        result(lengths(), 4, 8, 1, ones(10) + zeros(25) + ones(25));
        result(lengths(), 4, 9, 8, ones(10));
        result(lengths(), 4, 8, 9, ones(10));
        result(lengths(), 4, 9, 11, "");
    }

    private static void not() {
        result(Samples.truthTable(), 5, 8, 9, "1100");
        result(lengths(), 5, 8, 0, zeros(10));
        result(lengths(), 5, 0, 8, zeros(35) + ones(25));
        result(lengths(), 5, 9, 8, "");
        WahBitmapIndex x = new WahBitmapIndex(16, 2);
        for (int rows = 1; rows <= 496; rows++) {
            x.appendRow(1);
            result(x, 5, 0, 0, ones(rows));
            Due.due("words of a negation", Read.words(x, 10), Read.words(x, 1));
        }
    }

    private static void copy() {
        result(Samples.truthTable(), 6, 8, 9, "0011");
        result(lengths(), 6, 8, 0, ones(10));
        result(lengths(), 6, 0, 8, ones(35) + zeros(25));
        result(lengths(), 6, 9, 8, "");
        WahBitmapIndex x = new WahBitmapIndex(16, 2);
        for (int rows = 1; rows <= 496; rows++) {
            x.appendRow(rows % 2);
            result(x, 6, 1, 0, "10".repeat(248).substring(0, rows));
            Due.due("words of a copy", Read.words(x, 10), Read.words(x, 1));
        }
    }

    private static void bitsBeyondTheEnd() {
        for (int shorter = 0; shorter <= 93; shorter++) {
            for (int longer = shorter; longer <= 93; longer++) {
                onesOfTwoLengths(shorter, longer);
            }
        }
        bitsThatAreGone();
    }

    private static void onesOfTwoLengths(int shorter, int longer) {
        WahBitmapIndex x = new WahBitmapIndex(3, 1);
        x.appendRun(0, shorter);
        x.combine(6, 8, 0, 0);
        x.appendRun(0, longer - shorter);
        x.combine(6, 9, 0, 0);
        String beyond = zeros(shorter) + ones(longer - shorter);
        result(x, 1, 8, 9, ones(shorter) + zeros(longer - shorter));
        result(x, 1, 9, 8, ones(shorter) + zeros(longer - shorter));
        result(x, 2, 8, 9, ones(longer));
        result(x, 2, 9, 8, ones(longer));
        result(x, 3, 8, 9, zeros(longer));
        result(x, 3, 9, 8, beyond);
        result(x, 4, 8, 9, beyond);
        result(x, 4, 9, 8, beyond);
    }

    /** Register 8 was long before, or is the negation of a short bitmap: neither may come back. */
    private static void bitsThatAreGone() {
        WahBitmapIndex x = new WahBitmapIndex(4, 2);
        Due.taken("appendRun(0, 5)", x.appendRun(0, 5));
        Due.taken("copy of 5 rows", x.combine(6, 9, 0, 0));
        Due.taken("appendRun(0, 90)", x.appendRun(0, 90));
        Due.taken("copy of 95 rows", x.combine(6, 8, 0, 0));
        Due.taken("short over long", x.combine(6, 8, 9, 0));
        Due.taken("appendRun(1, 5)", x.appendRun(1, 5));
        result(x, 2, 8, 1, ones(5) + zeros(90) + ones(5));
        Due.taken("not of a short bitmap", x.combine(5, 8, 9, 0));
        result(x, 2, 8, 1, zeros(95) + ones(5));
        result(x, 4, 8, 1, zeros(95) + ones(5));
        result(x, 3, 1, 8, zeros(95) + ones(5));
        result(x, 1, 8, 1, zeros(100));
        result(x, 3, 8, 1, zeros(100));
    }

    private static void everyPairOfOperands() {
        for (int valueCount = 1; valueCount <= 8; valueCount++) {
            for (int a : Ids.valid(valueCount)) {
                for (int b : Ids.valid(valueCount)) {
                    pairOfOperands(valueCount, a, b);
                }
            }
        }
    }

    private static void pairOfOperands(int valueCount, int a, int b) {
        WahBitmapIndex x = Samples.mixed(valueCount);
        int length = Math.max(x.getLength(a), x.getLength(b));
        StringBuilder want = new StringBuilder();
        for (int row = 0; row < length; row++) {
            want.append(x.testBit(a, row) && !x.testBit(b, row) ? '1' : '0');
        }
        result(x, 3, a, b, want.toString());
    }

    private static void equalOperands() {
        String[] want = {"0011", "0011", "0000", "0000", "1100", "0011"};
        for (int op = 1; op <= 6; op++) {
            result(Samples.truthTable(), op, 8, 8, want[op - 1]);
            WahBitmapIndex x = Samples.truthTable();
            Due.taken(named(op, 8, 8, 8), x.combine(op, 8, 8, 8));
            Due.due("bits of 8 after op " + op, Read.bits(x, 8), want[op - 1]);
        }
        result(Samples.truthTable(), 1, 2, 2, "0010");
        result(Samples.truthTable(), 4, 2, 2, "0000");
    }

    private static void destinationIsOperand() {
        String[] want = {"0001", "0111", "0010", "0110", "1100", "0011"};
        for (int op = 1; op <= 6; op++) {
            WahBitmapIndex x = Samples.truthTable();
            Due.taken(named(op, 8, 8, 9), x.combine(op, 8, 8, 9));
            Due.due("op " + op + " to a", Read.bits(x, 8), want[op - 1]);
            WahBitmapIndex y = Samples.truthTable();
            Due.taken(named(op, 9, 8, 9), y.combine(op, 9, 8, 9));
            Due.due("op " + op + " to b", Read.bits(y, 9), want[op - 1]);
            destinationOfAnotherLength(op);
        }
    }

    /** The same call to register 10, which is no operand, tells what is due. */
    private static void destinationOfAnotherLength(int op) {
        List<Integer> ids = List.of(0, 1, 2, 8, 9, 11);
        for (int a : ids) {
            for (int b : ids) {
                WahBitmapIndex apart = Samples.mixed(3);
                apart.combine(op, 10, a, b);
                for (int dst : List.of(8, 9, 11)) {
                    WahBitmapIndex x = Samples.mixed(3);
                    Due.taken(named(op, dst, a, b), x.combine(op, dst, a, b));
                    Due.same("after " + named(op, dst, a, b),
                        Snapshot.ofBitmap(x, dst), Snapshot.ofBitmap(apart, 10));
                }
            }
        }
    }

    private static void onlyDestinationChanges() {
        for (Supplier<WahBitmapIndex> made : Samples.states(3)) {
            for (int dst : Ids.results()) {
                for (int op = 1; op <= 6; op++) {
                    for (int a : Ids.valid(3)) {
                        onlyChanges(made.get(), op, dst, a);
                    }
                }
            }
        }
    }

    private static void onlyChanges(WahBitmapIndex x, int op, int dst, int a) {
        List<String> before = Snapshot.without(x, dst);
        Due.taken(named(op, dst, a, 11), x.combine(op, dst, a, 11));
        Due.same("after " + named(op, dst, a, 11), Snapshot.without(x, dst), before);
    }

    private static void greatestLength() {
        for (int groups = 1; groups <= 16; groups++) {
            int capacity = 31 * groups;
            WahBitmapIndex x = new WahBitmapIndex(groups, 2);
            x.appendRun(1, capacity);
            x.combine(6, 8, 1, 0);
            x.combine(5, 9, 0, 0);
            result(x, 2, 8, 9, ones(capacity));
            result(x, 4, 8, 9, zeros(capacity));
            result(x, 1, 8, 1, ones(capacity));
            result(x, 3, 9, 0, ones(capacity));
            result(x, 5, 8, 0, zeros(capacity));
            result(x, 6, 9, 0, ones(capacity));
        }
    }
}
