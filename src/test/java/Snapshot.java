/** Everything that an index tells through its reading methods, as one text. */
final class Snapshot {
    private Snapshot() {
    }

    static String of(WahBitmapIndex x) {
        StringBuilder text = new StringBuilder();
        text.append("capacity ").append(x.getCapacity());
        text.append(" values ").append(x.getValueCount());
        text.append(" rows ").append(x.getRowCount()).append(':');
        for (int row = -1; row <= x.getRowCount(); row++) {
            text.append(' ').append(x.getValueAt(row));
        }
        for (int id = -1; id <= 12; id++) {
            text.append(bitmap(x, id));
        }
        return text.toString();
    }

    static String bitmap(WahBitmapIndex x, int id) {
        StringBuilder text = new StringBuilder();
        text.append("; bitmap ").append(id);
        text.append(" length ").append(x.getLength(id));
        text.append(" ones ").append(x.countBits(id));
        text.append(" bits ").append(bits(x, id));
        text.append(" words ").append(words(x, id));
        return text.toString();
    }

    static String bits(WahBitmapIndex x, int id) {
        StringBuilder text = new StringBuilder();
        for (int row = 0; row < x.getLength(id); row++) {
            text.append(x.testBit(id, row) ? '1' : '0');
        }
        return text.toString();
    }

    static String words(WahBitmapIndex x, int id) {
        StringBuilder text = new StringBuilder();
        for (int index = 0; index < x.getWordCount(id); index++) {
            text.append(index == 0 ? "" : " ").append(hex(x.getWord(id, index)));
        }
        return text.toString();
    }

    static String hex(int word) {
        return String.format("%08X", word);
    }
}
