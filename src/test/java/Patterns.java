import java.util.List;
import java.util.function.IntPredicate;

/** Bitmaps of every length, in patterns that lead to every kind of word. */
final class Patterns {
    /** Something that must hold of bitmap id, whose bits are given as a text. */
    interface Check {
        void of(WahBitmapIndex x, int id, String bits);
    }

    private static final List<IntPredicate> PATTERNS = List.of(
        row -> false,
        row -> row % 2 == 0,
        row -> row / 31 % 2 == 0,
        row -> row / 62 % 2 == 0,
        row -> row / 93 % 2 == 0 && row % 62 != 5,
        row -> row % 31 == 0,
        row -> row % 31 == 30,
        row -> row * row % 7 < 3,
        row -> row > 61 && row < 341);

    private Patterns() {
    }

    static void each(Check check) {
        for (IntPredicate pattern : PATTERNS) {
            everyLength(pattern, check);
        }
    }

    /** Value 1 and a register get the pattern, value 0 and another register its contrary. */
    private static void everyLength(IntPredicate pattern, Check check) {
        WahBitmapIndex x = new WahBitmapIndex(16, 2);
        StringBuilder bits = new StringBuilder();
        StringBuilder contrary = new StringBuilder();
        for (int length = 0; length <= 496; length++) {
            x.combine(6, 8, 1, 0);
            x.combine(5, 11, 1, 0);
            check.of(x, 1, bits.toString());
            check.of(x, 0, contrary.toString());
            check.of(x, 8, bits.toString());
            check.of(x, 11, contrary.toString());
            boolean set = pattern.test(length);
            x.appendRow(set ? 1 : 0);
            bits.append(set ? '1' : '0');
            contrary.append(set ? '0' : '1');
        }
    }
}
