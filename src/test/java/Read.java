/** One bitmap as a text, to be held against a text written by hand. */
final class Read {
    private Read() {
    }

    static String bits(WahBitmapIndex x, int id) {
        StringBuilder text = new StringBuilder();
        for (int row = 0; row < x.getLength(id); row++) {
            text.append(x.testBit(id, row) ? '1' : '0');
        }
        return text.toString();
    }

    static String words(WahBitmapIndex x, int id) {
        StringBuilder text = new StringBuilder();
        for (int index = 0; index < x.getWordCount(id); index++) {
            text.append(index == 0 ? "" : " ").append(hex(x.getWord(id, index)));
        }
        return text.toString();
    }

    /** The bits that the words stand for. */
    static String decoded(WahBitmapIndex x, int id) {
        StringBuilder text = new StringBuilder();
        for (int index = 0; index < x.getWordCount(id); index++) {
            int word = x.getWord(id, index);
            if (word >= 0) {
                text.append(groupBits(word));
            } else {
                String bit = (word & 0x40000000) == 0 ? "0" : "1";
                // A wrong word may tell of millions of groups.
                text.append(bit.repeat(31 * Math.min(word & 0x3FFFFFFF, 17)));
            }
        }
        return text.toString();
    }

    private static String groupBits(int literal) {
        StringBuilder text = new StringBuilder();
        for (int i = 0; i < 31; i++) {
            text.append(literal >>> i & 1);
        }
        return text.toString();
    }

    static String hex(int word) {
        return String.format("%08X", word);
    }
}
