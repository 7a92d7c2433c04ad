import java.util.List;

/** Promise 4: combine. */
public final class Promise04CombineTest {
    private static final int[] WRONG_OPS = {
        0, 7, 8, -1, -6, 0x10000001, Integer.MIN_VALUE, Integer.MAX_VALUE,
    };

    public static void main(String[] args) {
        equalLengths();
        differentLengths();
        oneOperandIgnoresTheOther();
        destinationIsOperand();
        staleBitsDoNotComeBack();
        onlyDestinationChanges();
        refusesWrongArguments();
        everyLengthNegated();
        Due.end();
    }

    /** Register 8 gets 0011 and register 9 gets 0101, in a column of 4 rows. */
    private static WahBitmapIndex truthTable() {
        WahBitmapIndex x = new WahBitmapIndex(1, 4);
        x.appendRow(0);
        x.appendRow(1);
        x.appendRow(2);
        x.appendRow(3);
        x.selectRange(8, 2, 3);
        x.combine(2, 9, 1, 3);
        Due.due("bits of 8", Snapshot.bits(x, 8), "0011");
        Due.due("bits of 9", Snapshot.bits(x, 9), "0101");
        return x;
    }

    private static void equalLengths() {
        String[] want = {"0001", "0111", "0010", "0110", "1100", "0011"};
        for (int op = 1; op <= 6; op++) {
            WahBitmapIndex x = truthTable();
            Due.taken("combine(" + op + ", 10, 8, 9)", x.combine(op, 10, 8, 9));
            Due.due("bits of op " + op, Snapshot.bits(x, 10), want[op - 1]);
        }
    }

    /** Value bitmap 0 is 35 ones and 25 zeros; register 8 is 10 ones long, register 9 empty. */
    private static WahBitmapIndex lengths() {
        WahBitmapIndex x = new WahBitmapIndex(2, 2);
        x.appendRun(0, 10);
        x.combine(6, 8, 0, 0);
        x.appendRun(0, 25);
        x.appendRun(1, 25);
        Due.due("getLength(8)", x.getLength(8), 10);
        Due.due("getLength(0)", x.getLength(0), 60);
        return x;
    }

    private static void differentLengths() {
        String ones10 = "1".repeat(10);
        String shortFirst = "0".repeat(10) + "1".repeat(25) + "0".repeat(25);
        String whole = "1".repeat(35) + "0".repeat(25);
        lengthCase(1, 8, 0, ones10 + "0".repeat(50));
        lengthCase(1, 0, 8, ones10 + "0".repeat(50));
        lengthCase(2, 8, 0, whole);
        lengthCase(2, 0, 8, whole);
        lengthCase(3, 8, 0, "0".repeat(60));
        lengthCase(3, 0, 8, shortFirst);
        lengthCase(4, 8, 0, shortFirst);
        lengthCase(4, 0, 8, shortFirst);
        lengthCase(5, 8, 0, "0".repeat(10));
        lengthCase(5, 0, 8, "0".repeat(35) + "1".repeat(25));
        lengthCase(6, 8, 0, ones10);
        lengthCase(6, 0, 8, whole);
        lengthCase(1, 9, 8, "0".repeat(10));
        lengthCase(2, 9, 8, ones10);
        lengthCase(3, 8, 9, ones10);
        lengthCase(4, 9, 8, ones10);
        lengthCase(2, 9, 11, "");
        lengthCase(5, 9, 8, "");
        lengthCase(6, 9, 8, "");
    }

    private static void lengthCase(int op, int a, int b, String want) {
        WahBitmapIndex x = lengths();
        String call = "combine(" + op + ", 10, " + a + ", " + b + ")";
        Due.taken(call, x.combine(op, 10, a, b));
        Due.due("getLength after " + call, x.getLength(10), want.length());
        Due.due("bits after " + call, Snapshot.bits(x, 10), want);
        Due.due("countBits after " + call, x.countBits(10), want.replace("0", "").length());
    }

    private static void oneOperandIgnoresTheOther() {
        for (int op = 5; op <= 6; op++) {
            for (int b : Ids.notValid(4)) {
                WahBitmapIndex x = truthTable();
                String call = "combine(" + op + ", 10, 8, " + b + ")";
                Due.taken(call, x.combine(op, 10, 8, b));
                Due.due("bits after " + call, Snapshot.bits(x, 10), op == 5 ? "1100" : "0011");
            }
            WahBitmapIndex x = lengths();
            Due.taken("combine with a longer b", x.combine(op, 11, 8, 0));
            Due.due("getLength(11)", x.getLength(11), 10);
        }
    }

    private static void destinationIsOperand() {
        String[] first = {"0001", "0111", "0010", "0110", "1100", "0011"};
        String[] both = {"0011", "0011", "0000", "0000", "1100", "0011"};
        for (int op = 1; op <= 6; op++) {
            WahBitmapIndex x = truthTable();
            Due.taken("combine to a", x.combine(op, 8, 8, 9));
            Due.due("op " + op + " to a", Snapshot.bits(x, 8), first[op - 1]);
            WahBitmapIndex y = truthTable();
            Due.taken("combine to b", y.combine(op, 9, 8, 9));
            Due.due("op " + op + " to b", Snapshot.bits(y, 9), first[op - 1]);
            WahBitmapIndex z = truthTable();
            Due.taken("combine to both", z.combine(op, 8, 8, 8));
            Due.due("op " + op + " to both", Snapshot.bits(z, 8), both[op - 1]);
        }
        WahBitmapIndex x = lengths();
        Due.taken("combine(3, 8, 0, 8)", x.combine(3, 8, 0, 8));
        String want = "0".repeat(10) + "1".repeat(25) + "0".repeat(25);
        Due.due("longer a, dst is b", Snapshot.bits(x, 8), want);
    }

    private static void staleBitsDoNotComeBack() {
        WahBitmapIndex x = new WahBitmapIndex(4, 2);
        Due.taken("appendRun(0, 5)", x.appendRun(0, 5));
        Due.taken("copy of 5 rows", x.combine(6, 9, 0, 0));
        Due.taken("appendRun(0, 90)", x.appendRun(0, 90));
        Due.taken("copy of 95 rows", x.combine(6, 8, 0, 0));
        Due.taken("short over long", x.combine(6, 8, 9, 0));
        Due.taken("appendRun(1, 5)", x.appendRun(1, 5));
        Due.taken("or with a long bitmap", x.combine(2, 10, 8, 1));
        String want = "1".repeat(5) + "0".repeat(90) + "1".repeat(5);
        Due.due("bits of 10", Snapshot.bits(x, 10), want);
        Due.taken("not of a short bitmap", x.combine(5, 8, 9, 0));
        Due.taken("or with a long bitmap", x.combine(2, 10, 8, 1));
        Due.due("bits of 10", Snapshot.bits(x, 10), "0".repeat(95) + "1".repeat(5));
    }

    private static void onlyDestinationChanges() {
        for (int dst : Ids.results()) {
            for (int op = 1; op <= 6; op++) {
                WahBitmapIndex x = lengths();
                x.combine(5, 9, 0, 0);
                x.selectRange(10, 1, 1);
                x.combine(6, 11, 1, 0);
                String before = allBut(x, dst);
                String call = "combine(" + op + ", " + dst + ", 0, 8)";
                Due.taken(call, x.combine(op, dst, 0, 8));
                Due.due("all but dst after " + call, allBut(x, dst), before);
            }
        }
    }

    private static String allBut(WahBitmapIndex x, int dst) {
        return Snapshot.of(x).replace(Snapshot.bitmap(x, dst), "");
    }

    private static void refusesWrongArguments() {
        WahBitmapIndex x = truthTable();
        for (int op : WRONG_OPS) {
            refusedCombine(x, op, 8, 0, 1);
        }
        for (int op = 1; op <= 6; op++) {
            for (int dst : Ids.notResults()) {
                refusedCombine(x, op, dst, 0, 1);
            }
            for (int a : Ids.notValid(4)) {
                refusedCombine(x, op, 8, a, 1);
            }
        }
        for (int op = 1; op <= 4; op++) {
            for (int b : Ids.notValid(4)) {
                refusedCombine(x, op, 8, 0, b);
            }
        }
        for (int valueCount = 1; valueCount <= 8; valueCount++) {
            everyIdOf(valueCount);
        }
    }

    private static void refusedCombine(WahBitmapIndex x, int op, int dst, int a, int b) {
        String call = "combine(" + op + ", " + dst + ", " + a + ", " + b + ")";
        Due.refused(call, x, () -> x.combine(op, dst, a, b));
    }

    private static void everyIdOf(int valueCount) {
        WahBitmapIndex x = new WahBitmapIndex(1, valueCount);
        x.appendRun(0, 3);
        List<Integer> valid = Ids.valid(valueCount);
        for (int a = -2; a <= 13; a++) {
            for (int b = -2; b <= 13; b++) {
                boolean want = valid.contains(a) && valid.contains(b);
                Due.due("combine(2, 8, " + a + ", " + b + ")", x.combine(2, 8, a, b), want);
            }
        }
    }

    private static void everyLengthNegated() {
        WahBitmapIndex x = new WahBitmapIndex(16, 2);
        for (int rows = 1; rows <= 496; rows++) {
            x.appendRow(1);
            Due.taken("combine(5, 8, 0, 0)", x.combine(5, 8, 0, 0));
            Due.due("getLength(8)", x.getLength(8), rows);
            Due.due("countBits(8)", x.countBits(8), rows);
            Due.due("words of a negation", Snapshot.words(x, 8), Snapshot.words(x, 1));
        }
    }
}
