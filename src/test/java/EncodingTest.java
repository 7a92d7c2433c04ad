/** The section 'Canonical encoding'. */
public final class EncodingTest {
    public static void main(String[] args) {
        groups();
        emission();
        consequences();
        Due.end();
    }

    private static void groups() {
        Due.holds("Let G = (L + 30) / 31.", EncodingTest::numberOfGroups);
        Due.holds("Group g (0 <= g < G) covers rows 31g .. 31g+30.", EncodingTest::rowsOfGroups);
        Due.holds("Its group value is the int whose bit i (0 <= i <= 30) is the bit of row 31g+i "
            + "(0 for rows >= L), and whose bit 31 is 0.", EncodingTest::groupValues);
        Due.holds("Group g is full when 31g + 31 <= L;", EncodingTest::fullGroups);
        Due.holds("otherwise (only the last group, and only when L % 31 != 0) it is partial.",
            EncodingTest::partialGroups);
        Due.holds("A full group with value 0 is a zero-group; a full group with value 0x7FFFFFFF "
            + "is a one-group.", EncodingTest::nearlyUniformGroups);
    }

    private static void emission() {
        Due.holds("a maximal run of k >= 1 consecutive zero-groups emits one fill word "
            + "FILL_FLAG | k (that is 0x80000000 | k);", EncodingTest::zeroFills);
        Due.holds("a maximal run of k >= 1 consecutive one-groups emits one fill word "
            + "FILL_FLAG | FILL_ONE | k (that is 0xC0000000 | k);", EncodingTest::oneFills);
        Due.holds("every other group (a full group with mixed bits,", EncodingTest::mixedGroups);
        Due.holds("or the partial last group whatever its bits, even 0) emits one literal word "
            + "equal to its group value.", EncodingTest::uniformPartialGroups);
        Due.holds("Words are numbered from 0 in order of emission.", EncodingTest::orderOfWords);
        Due.holds("Length 0 gives no words.", EncodingTest::noWords);
    }

    private static void consequences() {
        Due.holds("So a fill word never stands next to a fill word with the same fill bit,",
            EncodingTest::neighbouringFills);
        Due.holds("and a partial group is never part of a fill.", EncodingTest::partialAfterFill);
        Due.holds("gives a vector of length L rounded up to a multiple of 31, whose first L bits "
            + "are the bits of the bitmap and whose remaining bits (only in the last literal "
            + "word) are 0.", () -> Patterns.each(EncodingTest::decoding));
    }

    private static void words(WahBitmapIndex x, int id, String want) {
        String of = "words of " + id + " of length " + x.getLength(id);
        Due.due(of, Read.words(x, id), want);
    }

    /** The words of value 0, of its copy, and of the negation of its negation. */
    private static void zeroWords(String want, int... runs) {
        WahBitmapIndex x = Samples.ofRuns(runs);
        x.combine(6, 8, 0, 0);
        x.combine(5, 11, 0, 0);
        x.combine(5, 11, 11, 0);
        words(x, 0, want);
        words(x, 8, want);
        words(x, 11, want);
    }

    /** In alternating bits no group is uniform, so each one is a word. */
    private static void numberOfGroups() {
        WahBitmapIndex x = new WahBitmapIndex(16, 2);
        for (int length = 0; length <= 496; length++) {
            x.combine(6, 8, 0, 0);
            Due.due("words of length " + length, x.getWordCount(0), (length + 30) / 31);
            Due.due("words of length " + length, x.getWordCount(8), (length + 30) / 31);
            x.appendRow(length % 2);
        }
    }

    private static void rowsOfGroups() {
        for (int row = 0; row < 496; row++) {
            WahBitmapIndex x = new WahBitmapIndex(16, 2);
            x.appendRun(1, row);
            x.appendRow(0);
            x.appendRun(1, 495 - row);
            int group = row / 31;
            String before = group == 0 ? "" : Read.hex(0x80000000 | group) + " ";
            String after = group == 15 ? "" : " " + Read.hex(0x80000000 | 15 - group);
            words(x, 0, before + Read.hex(1 << row % 31) + after);
        }
    }

    private static void groupValues() {
        for (int length = 1; length <= 30; length++) {
            zeroWords(Read.hex((1 << length) - 1), 0, length);
            zeroWords("80000001 " + Read.hex((1 << length) - 1), 1, 31, 0, length);
            zeroWords(Read.hex(1 << length - 1), lastOfRun(length));
        }
        zeroWords("40000000", 1, 30, 0, 1);
        zeroWords("7FFFFFFE", 1, 1, 0, 30);
        zeroWords("40000000 00000001", 1, 30, 0, 2);
        zeroWords("00000004", 1, 2, 0, 1, 1, 27);
    }

    /** Runs in which only the last of some rows holds 0. */
    private static int[] lastOfRun(int length) {
        return length == 1 ? new int[] {0, 1} : new int[] {1, length - 1, 0, 1};
    }

    private static void fullGroups() {
        for (int groups = 1; groups <= 16; groups++) {
            zeroWords(Read.hex(0xC0000000 | groups), 0, 31 * groups);
            zeroWords(Read.hex(0x80000000 | groups), 1, 31 * groups);
        }
    }

    private static void partialGroups() {
        zeroWords("3FFFFFFF", 0, 30);
        zeroWords("00000000", 1, 30);
        zeroWords("00000000", -1, 1);
        for (int groups = 1; groups < 16; groups++) {
            String ones = Read.hex(0xC0000000 | groups);
            String zeros = Read.hex(0x80000000 | groups);
            zeroWords(ones + " 00000001", 0, 31 * groups + 1);
            zeroWords(ones + " 3FFFFFFF", 0, 31 * groups + 30);
            zeroWords(zeros + " 00000000", 1, 31 * groups + 1);
            zeroWords(zeros + " 00000000", -1, 31 * groups + 30);
        }
    }

    /** Full groups that are one bit away from a fill, for each of the 31 bits. */
    private static void nearlyUniformGroups() {
        zeroWords("80000001", 1, 31);
        zeroWords("80000001", -1, 31);
        zeroWords("C0000001", 0, 31);
        for (int bit = 0; bit < 31; bit++) {
            WahBitmapIndex x = new WahBitmapIndex(1, 2);
            for (int row = 0; row < 31; row++) {
                x.appendRow(row == bit ? 0 : 1);
            }
            words(x, 0, Read.hex(1 << bit));
            words(x, 1, Read.hex(0x7FFFFFFF ^ 1 << bit));
        }
    }

    private static void zeroFills() {
        for (int groups = 1; groups <= 14; groups++) {
            String fill = Read.hex(0x80000000 | groups);
            zeroWords(fill, 1, 31 * groups);
            zeroWords("C0000001 " + fill + " C0000001", 0, 31, 1, 31 * groups, 0, 31);
            zeroWords("00000001 " + fill + " 40000000",
                0, 1, 1, 30 + 31 * groups + 30, 0, 1);
            zeroWords(fill + " 00000001", -1, 31 * groups, 0, 1);
        }
        zeroWords("80000010", 1, 496);
        zeroWords("8000000F 00000000", 1, 495);
    }

    private static void oneFills() {
        for (int groups = 1; groups <= 14; groups++) {
            String fill = Read.hex(0xC0000000 | groups);
            zeroWords(fill, 0, 31 * groups);
            zeroWords("80000001 " + fill + " 80000001", 1, 31, 0, 31 * groups, 1, 31);
            zeroWords("7FFFFFFE " + fill + " 3FFFFFFF",
                1, 1, 0, 30 + 31 * groups + 30, 1, 1);
            zeroWords(fill + " 00000000", 0, 31 * groups, 1, 1);
        }
        zeroWords("C0000010", 0, 496);
        zeroWords("C000000F 3FFFFFFF", 0, 495);
    }

    private static void mixedGroups() {
        zeroWords("00000001 00000001", 0, 1, 1, 30, 0, 1, 1, 30);
        zeroWords("3FFFFFFF 3FFFFFFF", 0, 30, 1, 1, 0, 30, 1, 1);
        zeroWords("00007FFF 7FFF8000", 0, 15, 1, 31, 0, 16);
        WahBitmapIndex x = new WahBitmapIndex(16, 2);
        for (int row = 0; row < 496; row++) {
            x.appendRow(row % 2);
        }
        words(x, 0, "55555555 2AAAAAAA ".repeat(8).trim());
        words(x, 1, "2AAAAAAA 55555555 ".repeat(8).trim());
    }

    private static void uniformPartialGroups() {
        for (int length = 1; length <= 30; length++) {
            String ones = Read.hex((1 << length) - 1);
            zeroWords("00000000", 1, length);
            zeroWords("00000000", -1, length);
            zeroWords(ones, 0, length);
            zeroWords("C0000001 00000000", 0, 31, 1, length);
            zeroWords("C000000F " + ones, 0, 465 + length);
            zeroWords("00000001 00000000", 0, 1, 1, 30 + length);
            zeroWords("7FFFFFFE " + ones, 1, 1, 0, 30 + length);
        }
    }

    private static void orderOfWords() {
        zeroWords("80000002 C0000003 00000007 80000001 00000002",
            1, 62, 0, 96, 1, 60, 0, 1);
        zeroWords("C0000002 80000002 C0000002 80000001 00000007",
            0, 62, -1, 62, 0, 62, 1, 31, 0, 3);
        zeroWords("00000001 00000003 00000007", 0, 1, 1, 30, 0, 2, 1, 29, 0, 3);
    }

    private static void noWords() {
        WahBitmapIndex x = new WahBitmapIndex(16, 2);
        words(x, 0, "");
        words(x, 8, "");
        x.appendRun(0, 62);
        words(x, 9, "");
        x.combine(5, 10, 9, 0);
        words(x, 10, "");
        x.combine(6, 11, 0, 0);
        x.clearResult(11);
        words(x, 11, "");
    }

    /** Fills that grow row by row, or that are first one when a literal between them is gone. */
    private static void neighbouringFills() {
        zeroWords("80000003", 1, 31, -1, 62);
        zeroWords("C0000003", 0, 31, 0, 62);
        zeroWords("80000002", 1, 17, -1, 20, 1, 25);
        zeroWords("C0000001 80000001 C0000001", 0, 31, 1, 31, 0, 31);
        zeroWords("C0000001 7FFFFFFE C0000001", 0, 31, 1, 1, 0, 61);
        zeroWords("80000001 00000001 80000001", 1, 31, 0, 1, 1, 61);
        WahBitmapIndex x = Samples.ofRuns(1, 31, 0, 1, 1, 61);
        x.combine(2, 8, 0, 1);
        words(x, 8, "C0000003");
        x.combine(1, 8, 0, 1);
        words(x, 8, "80000003");
        x.combine(5, 8, 8, 0);
        words(x, 8, "C0000003");
    }

    /** The last group is a literal until its 31st row is there. */
    private static void partialAfterFill() {
        WahBitmapIndex x = new WahBitmapIndex(2, 2);
        x.appendRun(0, 31);
        for (int rows = 1; rows <= 30; rows++) {
            x.appendRow(0);
            words(x, 0, "C0000001 " + Read.hex((1 << rows) - 1));
            words(x, 1, "80000001 00000000");
        }
        x.appendRow(0);
        words(x, 0, "C0000002");
        words(x, 1, "80000002");
    }

    private static void decoding(WahBitmapIndex x, int id, String bits) {
        int rest = (31 - bits.length() % 31) % 31;
        Due.due("decoded words of " + id, Read.decoded(x, id), bits + "0".repeat(rest));
    }
}
