import java.util.function.Supplier;

/** Promise 15: getWordCount and getWord. */
public final class Promise15WordsTest {
    private static final int MIN = Integer.MIN_VALUE;
    private static final int MAX = Integer.MAX_VALUE;

    public static void main(String[] args) {
        wordCounts();
        words();
        forms();
        Due.holds("Neither method changes anything.", Promise15WordsTest::changesNothing);
        Due.end();
    }

    private static void wordCounts() {
        Due.holds("0 when its length is 0,", Promise15WordsTest::noWords);
        Due.holds("and otherwise a number between 1 and G = (L + 30) / 31.",
            Promise15WordsTest::fewestAndMostWords);
        Due.holds("It answers -1 when id is not valid.", Promise15WordsTest::countsOfWrongIds);
    }

    private static void words() {
        Due.holds("answers word index (counted from 0) of the canonical encoding of bitmap id.",
            Promise15WordsTest::wordsByIndex);
        Due.holds("It answers 0 when id is not valid,", Promise15WordsTest::wordsOfWrongIds);
        Due.holds("or index < 0,", Promise15WordsTest::indexesBelow);
        Due.holds("or index >= getWordCount(id).", Promise15WordsTest::indexesBeyond);
        Due.holds("Note that 0 is also the literal word of a partial last group with no 1 bits.",
            Promise15WordsTest::lastWordZero);
        Due.holds("are exactly the canonical encoding of the bitmap's current bits and length",
            Promise15WordsTest::currentBits);
    }

    private static void forms() {
        Due.holds("each fill word has bit 31 set and a count (bits 0..29, FILL_COUNT_MASK) of at "
            + "least 1;", () -> Patterns.each(Promise15WordsTest::fillCounts));
        Due.holds("each literal word has bit 31 clear;",
            () -> Patterns.each(Promise15WordsTest::literals));
        Due.holds("no two adjacent words are fill words with the same fill bit (FILL_ONE);",
            () -> Patterns.each(Promise15WordsTest::adjacentWords));
        Due.holds("a literal word is never 0x7FFFFFFF,",
            () -> Patterns.each(Promise15WordsTest::noLiteralOfOnes));
        Due.holds("and a literal word is 0 only when it is the last word and L % 31 != 0 (the "
            + "partial last group);", () -> Patterns.each(Promise15WordsTest::zeroLiterals));
        Due.holds("and decoding them gives the bits of the bitmap followed by 0s up to the next "
            + "multiple of 31.", () -> Patterns.each(Promise15WordsTest::decoding));
    }

    private static void count(WahBitmapIndex x, int id, int want) {
        Due.due("getWordCount(" + id + ")", x.getWordCount(id), want);
    }

    private static void word(WahBitmapIndex x, int id, int index, int want) {
        String call = "getWord(" + id + ", " + index + ")";
        Due.due(call, Read.hex(x.getWord(id, index)), Read.hex(want));
    }

    private static void noWords() {
        for (int valueCount = 1; valueCount <= 8; valueCount++) {
            WahBitmapIndex x = new WahBitmapIndex(16, valueCount);
            for (int id : Ids.valid(valueCount)) {
                count(x, id, 0);
            }
            x.appendRun(0, 496);
            for (int id : Ids.results()) {
                count(x, id, 0);
                x.combine(6, id, 0, 0);
                count(x, id, 1);
                x.clearResult(id);
                count(x, id, 0);
            }
        }
    }

    /** Uniform bitmaps have one word, and one more when the last group is partial. */
    private static void fewestAndMostWords() {
        WahBitmapIndex uniform = new WahBitmapIndex(16, 2);
        WahBitmapIndex mixed = new WahBitmapIndex(16, 2);
        for (int length = 1; length <= 496; length++) {
            uniform.appendRow(1);
            uniform.combine(6, 9, 1, 0);
            int fewest = length % 31 == 0 || length < 31 ? 1 : 2;
            count(uniform, 0, fewest);
            count(uniform, 1, fewest);
            count(uniform, 9, fewest);
            mixed.appendRow(length % 2);
            mixed.combine(6, 9, 1, 0);
            int most = (length + 30) / 31;
            count(mixed, 0, most);
            count(mixed, 1, most);
            count(mixed, 9, most);
        }
    }

    private static void countsOfWrongIds() {
        for (int valueCount = 1; valueCount <= 8; valueCount++) {
            for (Supplier<WahBitmapIndex> made : Samples.states(valueCount)) {
                for (int id : Ids.notValid(valueCount)) {
                    count(made.get(), id, -1);
                }
            }
        }
    }

    private static void wordsByIndex() {
        WahBitmapIndex x = Samples.ofRuns(1, 62, 0, 96, 1, 60, 0, 1);
        x.combine(6, 8, 0, 0);
        x.combine(6, 11, 0, 0);
        for (int id : new int[] {0, 8, 11}) {
            count(x, id, 5);
            word(x, id, 0, 0x80000002);
            word(x, id, 1, 0xC0000003);
            word(x, id, 2, 0x00000007);
            word(x, id, 3, 0x80000001);
            word(x, id, 4, 0x00000002);
        }
        WahBitmapIndex y = Samples.largest();
        for (int id : Ids.valid(8)) {
            count(y, id, 1);
            word(y, id, 0, id == 3 || id >= 8 ? 0xC0000010 : 0x80000010);
        }
    }

    private static void wordsOfWrongIds() {
        for (int valueCount = 1; valueCount <= 8; valueCount++) {
            WahBitmapIndex x = Samples.onesEverywhere(valueCount);
            for (int id : Ids.notValid(valueCount)) {
                for (int index : new int[] {MIN, -1, 0, 1, 2, 15, 16, MAX}) {
                    word(x, id, index, 0);
                }
            }
        }
    }

    private static void indexesBelow() {
        WahBitmapIndex largest = Samples.largest();
        WahBitmapIndex mixed = Samples.mixed(8);
        for (int id : Ids.valid(8)) {
            for (int index : new int[] {-1, -2, -15, -16, -17, -31, MIN + 1, MIN}) {
                word(largest, id, index, 0);
                word(mixed, id, index, 0);
            }
        }
    }

    /** No bitmap here ends in a word 0, so that a word too far cannot pass for the last one. */
    private static void indexesBeyond() {
        for (int length = 1; length <= 496; length++) {
            WahBitmapIndex x = new WahBitmapIndex(16, 2);
            x.appendRun(0, length);
            x.combine(6, 8, 0, 0);
            x.appendRun(0, 496 - length);
            int words = length % 31 == 0 || length < 31 ? 1 : 2;
            count(x, 8, words);
            for (int index : new int[] {words, words + 1, 15, 16, 17, 31, 0x10000000, MAX}) {
                word(x, 8, index, 0);
                word(x, 0, index + 1, 0);
            }
        }
        WahBitmapIndex x = Samples.largest();
        for (int id : Ids.valid(8)) {
            for (int index = 1; index <= 200; index++) {
                word(x, id, index, 0);
            }
        }
    }

    private static void lastWordZero() {
        WahBitmapIndex x = Samples.ofRuns(0, 31, 1, 1);
        count(x, 0, 2);
        word(x, 0, 0, 0xC0000001);
        word(x, 0, 1, 0);
        word(x, 0, 2, 0);
        WahBitmapIndex y = Samples.ofRuns(-1, 30);
        count(y, 0, 1);
        word(y, 0, 0, 0);
        word(y, 0, 1, 0);
    }

    /** The words are asked before and after each change, in case old ones were kept. */
    private static void currentBits() {
        WahBitmapIndex x = Samples.ofRuns(0, 40);
        Due.due("words of 0", Read.words(x, 0), "C0000001 000001FF");
        Due.due("words of 8", Read.words(x, 8), "");
        x.combine(6, 8, 0, 0);
        Due.due("words of 8", Read.words(x, 8), "C0000001 000001FF");
        x.appendRun(1, 53);
        Due.due("words of 0", Read.words(x, 0), "C0000001 000001FF 80000001");
        Due.due("words of 1", Read.words(x, 1), "80000001 7FFFFE00 C0000001");
        Due.due("words of 8", Read.words(x, 8), "C0000001 000001FF");
        x.combine(5, 8, 8, 0);
        Due.due("words of 8", Read.words(x, 8), "80000001 00000000");
        x.combine(2, 8, 0, 1);
        Due.due("words of 8", Read.words(x, 8), "C0000003");
        x.selectRange(8, 1, 1);
        Due.due("words of 8", Read.words(x, 8), "80000001 7FFFFE00 C0000001");
        x.clearResult(8);
        Due.due("words of 8", Read.words(x, 8), "");
        x.appendRow(0);
        Due.due("words of 0", Read.words(x, 0), "C0000001 000001FF 80000001 00000001");
    }

    private static void fillCounts(WahBitmapIndex x, int id, String bits) {
        int groups = 0;
        for (int index = 0; index < x.getWordCount(id); index++) {
            int word = x.getWord(id, index);
            boolean fill = (word & WahBitmapIndex.FILL_FLAG) != 0;
            int stands = fill ? word & WahBitmapIndex.FILL_COUNT_MASK : 1;
            Due.due("groups of word " + Read.hex(word) + " are some", stands >= 1, true);
            groups += stands;
        }
        Due.due("groups of all words of " + id, groups, (bits.length() + 30) / 31);
    }

    /** Only a full group of equal bits is told by a word with bit 31 set. */
    private static void literals(WahBitmapIndex x, int id, String bits) {
        int literals = 0;
        for (int index = 0; index < x.getWordCount(id); index++) {
            literals += x.getWord(id, index) >= 0 ? 1 : 0;
        }
        int want = 0;
        for (int row = 0; row < bits.length(); row += 31) {
            String group = bits.substring(row, Math.min(row + 31, bits.length()));
            boolean mixed = group.contains("0") && group.contains("1");
            want += mixed || group.length() < 31 ? 1 : 0;
        }
        Due.due("literal words of " + id, literals, want);
    }

    private static void adjacentWords(WahBitmapIndex x, int id, String bits) {
        for (int index = 0; index + 1 < x.getWordCount(id); index++) {
            int word = x.getWord(id, index);
            int next = x.getWord(id, index + 1);
            boolean alike = word < 0 && next < 0
                && (word & WahBitmapIndex.FILL_ONE) == (next & WahBitmapIndex.FILL_ONE);
            Due.due("like fills " + index + " of " + id + " side by side", alike, false);
        }
    }

    private static void noLiteralOfOnes(WahBitmapIndex x, int id, String bits) {
        for (int index = 0; index < x.getWordCount(id); index++) {
            boolean allOnes = x.getWord(id, index) == 0x7FFFFFFF;
            Due.due("word " + index + " of " + id + " is 0x7FFFFFFF", allOnes, false);
        }
    }

    private static void zeroLiterals(WahBitmapIndex x, int id, String bits) {
        int last = x.getWordCount(id) - 1;
        boolean partial = bits.length() % 31 != 0;
        for (int index = 0; index <= last; index++) {
            boolean zero = x.getWord(id, index) == 0;
            boolean want = partial && index == last
                && !bits.substring(bits.length() / 31 * 31).contains("1");
            Due.due("word " + index + " of " + id + " is 0", zero, want);
        }
    }

    private static void decoding(WahBitmapIndex x, int id, String bits) {
        String decoded = Read.decoded(x, id);
        Due.due("decoded length", decoded.length(), (bits.length() + 30) / 31 * 31);
        boolean begins = decoded.startsWith(bits);
        Due.due("decoded words of " + id + " begin with its bits", begins, true);
        boolean restIsZero = begins && !decoded.substring(bits.length()).contains("1");
        Due.due("decoded words of " + id + " end with zeros", restIsZero, true);
    }

    private static void changesNothing() {
        for (Supplier<WahBitmapIndex> made : Samples.states(3)) {
            for (int id : Ids.all(3)) {
                Twins.readsOnly("getWordCount(" + id + ")", made, x -> x.getWordCount(id));
                for (int index : new int[] {MIN, -1, 0, 1, 2, 3, MAX}) {
                    String call = "getWord(" + id + ", " + index + ")";
                    Twins.readsOnly(call, made, x -> x.getWord(id, index));
                }
            }
        }
    }
}
