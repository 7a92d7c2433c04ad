import java.util.List;

/** The section 'What it is'. */
public final class WhatItIsTest {
    public static void main(String[] args) {
        rows();
        registers();
        reading();
        Due.end();
    }

    private static void rows() {
        Due.holds("Rows are appended one at a time or in runs of equal values.",
            WhatItIsTest::rowsOrRuns);
        Due.holds("Each row holds either a small value v with 0 <= v < valueCount, or the null "
            + "value NULL_VALUE. For every value the index keeps a bitmap of the rows holding it.",
            WhatItIsTest::bitmapsOfValues);
        Due.holds("The index holds at most 31 * 16 = 496 rows.", WhatItIsTest::mostRows);
    }

    private static void registers() {
        Due.holds("Four result registers take the AND, OR, AND-NOT, XOR, NOT or copy of any "
            + "bitmaps", WhatItIsTest::operations);
        Due.holds("(possibly of different lengths; a shorter one reads as 0 beyond its end),",
            WhatItIsTest::shorterBitmap);
        Due.holds("or the rows whose value lies in a range.", WhatItIsTest::range);
    }

    private static void reading() {
        Due.holds("Any bitmap can be asked for its length, single bits, its count of ones, the "
            + "next set row from a position, and every word of its canonical compressed encoding,",
            WhatItIsTest::everyBitmapIsRead);
        Due.holds("which is fully defined by its bits and length alone.",
            () -> Patterns.each(WhatItIsTest::manyWays));
    }

    private static void rowsOrRuns() {
        WahBitmapIndex single = new WahBitmapIndex(16, 8);
        WahBitmapIndex runs = new WahBitmapIndex(16, 8);
        for (int count = 1; count <= 30; count++) {
            int value = count % 9 - 1;
            for (int row = 0; row < count; row++) {
                Due.taken("appendRow(" + value + ")", single.appendRow(value));
            }
            Due.taken("appendRun(" + value + ", " + count + ")", runs.appendRun(value, count));
            Due.same("after run " + count, Snapshot.of(runs), Snapshot.of(single));
        }
    }

    private static void bitmapsOfValues() {
        WahBitmapIndex x = new WahBitmapIndex(1, 3);
        for (int value : new int[] {2, WahBitmapIndex.NULL_VALUE, 0, 1, 1, 2, 0}) {
            Due.taken("appendRow(" + value + ")", x.appendRow(value));
        }
        Due.due("bits of 0", Read.bits(x, 0), "0010001");
        Due.due("bits of 1", Read.bits(x, 1), "0001100");
        Due.due("bits of 2", Read.bits(x, 2), "1000010");
        Due.due("getValueAt(1)", x.getValueAt(1), WahBitmapIndex.NULL_VALUE);
    }

    private static void mostRows() {
        WahBitmapIndex x = new WahBitmapIndex(WahBitmapIndex.MAX_GROUPS, 1);
        for (int row = 0; row < 496; row++) {
            Due.taken("appendRow(0)", x.appendRow(0));
        }
        Due.due("appendRow(0)", x.appendRow(0), false);
        Due.due("getRowCount()", x.getRowCount(), 496);
    }

    /** Here the operations go by their names, which the other tests leave out. */
    private static void operations() {
        for (int dst : Ids.results()) {
            operation("AND", WahBitmapIndex.OP_AND, dst, "0001");
            operation("OR", WahBitmapIndex.OP_OR, dst, "0111");
            operation("AND-NOT", WahBitmapIndex.OP_ANDNOT, dst, "0010");
            operation("XOR", WahBitmapIndex.OP_XOR, dst, "0110");
            operation("NOT", WahBitmapIndex.OP_NOT, dst, "1100");
            operation("copy", WahBitmapIndex.OP_COPY, dst, "0011");
        }
    }

    private static void operation(String name, int op, int dst, String want) {
        WahBitmapIndex x = Samples.truthTable();
        Due.taken(name + " to " + dst, x.combine(op, dst, 8, 9));
        Due.due("bits of " + dst + " after " + name, Read.bits(x, dst), want);
    }

    private static void shorterBitmap() {
        WahBitmapIndex x = new WahBitmapIndex(2, 1);
        x.appendRun(0, 3);
        Due.taken("copy", x.combine(WahBitmapIndex.OP_COPY, 8, 0, 0));
        x.appendRun(0, 37);
        Due.taken("XOR", x.combine(WahBitmapIndex.OP_XOR, 9, 8, 0));
        Due.due("bits of 9", Read.bits(x, 9), "000" + "1".repeat(37));
    }

    private static void range() {
        WahBitmapIndex x = Samples.truthTable();
        Due.taken("selectRange(11, 1, 2)", x.selectRange(11, 1, 2));
        Due.due("bits of 11", Read.bits(x, 11), "0110");
    }

    private static void everyBitmapIsRead() {
        WahBitmapIndex x = Samples.largest();
        for (int id : List.of(3, 8, 9, 10, 11)) {
            Due.due("getLength(" + id + ")", x.getLength(id), 496);
            Due.due("testBit(" + id + ", 495)", x.testBit(id, 495), true);
            Due.due("countBits(" + id + ")", x.countBits(id), 496);
            Due.due("nextSetRow(" + id + ", 495)", x.nextSetRow(id, 495), 495);
            Due.due("words of " + id, Read.words(x, id), "C0000010");
        }
    }

    /** The same bits in another index, which come about there in several ways. */
    private static void manyWays(WahBitmapIndex x, int id, String bits) {
        String want = Read.words(x, id);
        WahBitmapIndex y = rowsOf(bits);
        sameWords("rows", y, 7, want);
        y.selectRange(8, 7, 7);
        sameWords("selectRange", y, 8, want);
        y.combine(WahBitmapIndex.OP_NOT, 9, 7, 0);
        y.combine(WahBitmapIndex.OP_NOT, 9, 9, 0);
        sameWords("NOT of NOT", y, 9, want);
        y.combine(WahBitmapIndex.OP_OR, 10, 7, 0);
        y.combine(WahBitmapIndex.OP_ANDNOT, 10, 10, 0);
        sameWords("OR and AND-NOT", y, 10, want);
        y.appendRun(7, y.getCapacity() - y.getRowCount());
        y.combine(WahBitmapIndex.OP_COPY, 11, 7, 0);
        y.combine(WahBitmapIndex.OP_COPY, 11, 8, 0);
        sameWords("copy over a longer one", y, 11, want);
    }

    private static void sameWords(String way, WahBitmapIndex x, int id, String want) {
        Due.due("words by " + way, Read.words(x, id), want);
    }

    /** Value 7 gets the bits, in an index with a little more room where there can be more. */
    private static WahBitmapIndex rowsOf(String bits) {
        WahBitmapIndex x = new WahBitmapIndex(bits.length() / 31 + 1, 8);
        for (int row = 0; row < bits.length(); row++) {
            x.appendRow(bits.charAt(row) == '1' ? 7 : row % 8 - 1);
        }
        return x;
    }
}
