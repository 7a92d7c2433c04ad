import java.util.ArrayList;
import java.util.List;

/** The document told again in the plainest way: a list of rows, and a list of bits a register. */
final class Model {
    final int capacity;
    final int valueCount;
    final List<Integer> rows = new ArrayList<>();
    private final List<List<Boolean>> registers = new ArrayList<>();

    Model(int groups, int values) {
        capacity = 31 * Math.max(1, Math.min(16, groups));
        valueCount = Math.max(1, Math.min(8, values));
        for (int i = 0; i < 4; i++) {
            registers.add(List.of());
        }
    }

    boolean appendRun(int value, int count) {
        if (value < -1 || value >= valueCount) {
            return false;
        }
        if (count < 1 || count > capacity - rows.size()) {
            return false;
        }
        for (int i = 0; i < count; i++) {
            rows.add(value);
        }
        return true;
    }

    boolean combine(int op, int dst, int a, int b) {
        boolean two = op >= 1 && op <= 4;
        boolean one = op == 5 || op == 6;
        if (!two && !one || !isRegister(dst) || !isValid(a) || two && !isValid(b)) {
            return false;
        }
        List<Boolean> bitsA = bits(a);
        List<Boolean> bitsB = two ? bits(b) : List.of();
        int length = Math.max(bitsA.size(), bitsB.size());
        List<Boolean> result = new ArrayList<>();
        for (int r = 0; r < length; r++) {
            result.add(combined(op, bit(bitsA, r), bit(bitsB, r)));
        }
        registers.set(dst - 8, result);
        return true;
    }

    boolean selectRange(int dst, int lo, int hi) {
        if (!isRegister(dst)) {
            return false;
        }
        List<Boolean> result = new ArrayList<>();
        for (int value : rows) {
            result.add(value != -1 && lo <= value && value <= hi);
        }
        registers.set(dst - 8, result);
        return true;
    }

    boolean clearResult(int dst) {
        if (!isRegister(dst)) {
            return false;
        }
        registers.set(dst - 8, List.of());
        return true;
    }

    boolean isValid(int id) {
        return id >= 0 && id < valueCount || isRegister(id);
    }

    List<Boolean> bits(int id) {
        if (isRegister(id)) {
            return registers.get(id - 8);
        }
        List<Boolean> bits = new ArrayList<>();
        for (int value : rows) {
            bits.add(value == id);
        }
        return bits;
    }

    static boolean bit(List<Boolean> bits, int row) {
        return row >= 0 && row < bits.size() && bits.get(row);
    }

    static int nextSetRow(List<Boolean> bits, int from) {
        for (int row = 0; row < bits.size(); row++) {
            if (row >= from && bits.get(row)) {
                return row;
            }
        }
        return -1;
    }

    /** Lengthens the last word when it is a fill of the same kind, else adds a word. */
    static List<Integer> words(List<Boolean> bits) {
        List<Integer> words = new ArrayList<>();
        int groups = (bits.size() + 30) / 31;
        for (int g = 0; g < groups; g++) {
            int literal = groupValue(bits, g);
            boolean full = 31 * g + 31 <= bits.size();
            int last = words.isEmpty() ? 0 : words.get(words.size() - 1);
            if (full && literal == 0) {
                addFill(words, last, 0x80000000);
            } else if (full && literal == 0x7FFFFFFF) {
                addFill(words, last, 0xC0000000);
            } else {
                words.add(literal);
            }
        }
        return words;
    }

    private static void addFill(List<Integer> words, int last, int kind) {
        if ((last & 0xC0000000) == kind) {
            words.set(words.size() - 1, last + 1);
        } else {
            words.add(kind | 1);
        }
    }

    private static int groupValue(List<Boolean> bits, int g) {
        int value = 0;
        for (int i = 0; i < 31; i++) {
            value |= bit(bits, 31 * g + i) ? 1 << i : 0;
        }
        return value;
    }

    private static boolean combined(int op, boolean a, boolean b) {
        return switch (op) {
            case 1 -> a && b;
            case 2 -> a || b;
            case 3 -> a && !b;
            case 4 -> a != b;
            case 5 -> !a;
            default -> a;
        };
    }

    private static boolean isRegister(int id) {
        return id >= 8 && id <= 11;
    }
}
