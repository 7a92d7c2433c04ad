/** Promise 15: getWordCount and getWord. */
public final class Promise15WordsTest {
    public static void main(String[] args) {
        partialGroups();
        fills();
        neighbouringFills();
        longestFills();
        wordsOfFullBitmaps();
        registers();
        wrongArguments();
        Due.end();
    }

    /** The words of value 0 after runs of rows, each given as a value and a count. */
    private static void words(String want, int... runs) {
        WahBitmapIndex x = new WahBitmapIndex(16, 2);
        StringBuilder call = new StringBuilder("runs");
        for (int i = 0; i < runs.length; i += 2) {
            call.append(' ').append(runs[i]).append('x').append(runs[i + 1]);
            Due.taken(call.toString(), x.appendRun(runs[i], runs[i + 1]));
        }
        Due.due("words after " + call, Snapshot.words(x, 0), want);
    }

    private static void partialGroups() {
        words("");
        words("00000001", 0, 1);
        words("00000000", 1, 1);
        words("00000000", -1, 30);
        words("3FFFFFFF", 0, 30);
        words("C0000001 00000000", 0, 31, 1, 1);
        words("C0000001 00000001", 0, 32);
        words("80000001 00000000", 1, 32);
        words("80000002 00000000", 1, 92);
        words("C0000002 3FFFFFFF", 0, 92);
        words("20000000", 1, 29, 0, 1);
        words("00000004", 1, 2, 0, 1, 1, 27);
    }

    private static void fills() {
        words("C0000001", 0, 31);
        words("80000001", 1, 31);
        words("80000001", -1, 31);
        words("40000000", 1, 30, 0, 1);
        words("3FFFFFFF", 0, 30, 1, 1);
        words("7FFFFFFE", 1, 1, 0, 30);
        words("00000001", 0, 1, 1, 30);
        words("80000003", 1, 31, -1, 62);
        words("C0000003", 0, 31, 0, 62);
    }

    private static void neighbouringFills() {
        words("C0000001 80000001", 0, 31, 1, 31);
        words("80000002 C0000003 80000001", 1, 62, 0, 93, 1, 31);
        words("C0000001 7FFFFFFE C0000001", 0, 31, 1, 1, 0, 61);
        words("80000001 00000001 80000001", 1, 31, 0, 1, 1, 61);
        words("00000001 00000001", 0, 1, 1, 30, 0, 1, 1, 30);
        words("80000001 00000001 00000001 00000000",
            1, 31, 0, 1, 1, 30, 0, 1, 1, 30, 1, 3);
        words("C0000002 80000002 C0000002 80000001 00000007",
            0, 62, -1, 62, 0, 62, 1, 31, 0, 3);
    }

    private static void longestFills() {
        words("C0000010", 0, 496);
        words("80000010", 1, 496);
        words("C000000F 3FFFFFFF", 0, 495);
        words("8000000F 40000000", 1, 495, 0, 1);
        words("8000000F 00000000", 1, 495);
        WahBitmapIndex x = new WahBitmapIndex(16, 2);
        for (int row = 0; row < 496; row++) {
            x.appendRow(row % 2);
        }
        Due.due("getWordCount(0)", x.getWordCount(0), 16);
        Due.due("getWordCount(1)", x.getWordCount(1), 16);
        for (int index = 0; index < 16; index++) {
            boolean even = index % 2 == 0;
            Due.due("getWord(0, n)", x.getWord(0, index), even ? 0x55555555 : 0x2AAAAAAA);
            Due.due("getWord(1, n)", x.getWord(1, index), even ? 0x2AAAAAAA : 0x55555555);
        }
    }

    private static void wordsOfFullBitmaps() {
        WahBitmapIndex x = Samples.full();
        for (int id : Ids.valid(8)) {
            boolean ones = id == 3 || id >= 8;
            Due.due("words of " + id, Snapshot.words(x, id), ones ? "C0000010" : "80000010");
            for (int index = 1; index <= 20; index++) {
                Due.due("getWord(" + id + ", " + index + ")", x.getWord(id, index), 0);
            }
        }
    }

    private static void registers() {
        WahBitmapIndex x = new WahBitmapIndex(4, 2);
        x.appendRun(0, 40);
        x.combine(6, 8, 0, 0);
        x.combine(5, 9, 0, 0);
        x.appendRun(1, 53);
        x.combine(4, 10, 8, 8);
        x.combine(2, 11, 0, 1);
        Due.due("words of 8", Snapshot.words(x, 8), "C0000001 000001FF");
        Due.due("words of 9", Snapshot.words(x, 9), "80000001 00000000");
        Due.due("words of 10", Snapshot.words(x, 10), "80000001 00000000");
        Due.due("words of 11", Snapshot.words(x, 11), "C0000003");
        Due.due("words of 1", Snapshot.words(x, 1), "80000001 7FFFFE00 C0000001");
        x.combine(2, 8, 8, 1);
        Due.due("words of a longer 8", Snapshot.words(x, 8), "C0000003");
        x.clearResult(8);
        Due.due("getWordCount(8)", x.getWordCount(8), 0);
        Due.unchanged("the words", x, () -> {
            x.getWordCount(11);
            x.getWord(11, 0);
        });
    }

    private static void wrongArguments() {
        for (int valueCount = 1; valueCount <= 8; valueCount++) {
            WahBitmapIndex x = new WahBitmapIndex(3, valueCount);
            x.appendRun(0, 70);
            x.selectRange(11, 0, 0);
            for (int id : Ids.notValid(valueCount)) {
                Due.due("getWordCount(" + id + ")", x.getWordCount(id), -1);
                for (int index = -1; index <= 3; index++) {
                    Due.due("getWord(" + id + ", " + index + ")", x.getWord(id, index), 0);
                }
            }
            for (int id : new int[] {0, 11}) {
                wrongIndexes(x, id);
            }
        }
    }

    private static void wrongIndexes(WahBitmapIndex x, int id) {
        Due.due("getWordCount(" + id + ")", x.getWordCount(id), 2);
        Due.due("getWord(" + id + ", 0)", x.getWord(id, 0), 0xC0000002);
        Due.due("getWord(" + id + ", 1)", x.getWord(id, 1), 0xFF);
        int[] wrong = {-1, -2, 2, 3, 15, 16, 17, 31, Integer.MIN_VALUE, Integer.MAX_VALUE};
        for (int index : wrong) {
            Due.due("getWord(" + id + ", " + index + ")", x.getWord(id, index), 0);
        }
    }
}
