import java.util.List;

/** Long runs of calls, the same ones each time, with every answer held against the model. */
public final class ModelTest {
    private static final int RUNS = 400;
    private static final int STEPS = 60;
    private static final int[] ODD_NUMBERS = {
        Integer.MIN_VALUE, -31, -2, -1, 0, 1, 7, 8, 11, 12, 30, 31, 32, 62, 495, 496, 497,
        0x10000000, Integer.MAX_VALUE,
    };

    private final Model model;
    private final WahBitmapIndex index;
    private String run = "";
    private long state;

    private ModelTest(int seed) {
        state = seed;
        int groups = below(19) - 1;
        int values = below(11) - 1;
        model = new Model(groups, values);
        index = new WahBitmapIndex(groups, values);
        run = "run " + seed + " (" + groups + ", " + values + ")";
    }

    public static void main(String[] args) {
        // After a fault the runs only tell the same again, in millions of lines.
        for (int seed = 1; seed <= RUNS && !Due.anyWrong(); seed++) {
            ModelTest test = new ModelTest(seed);
            for (int step = 0; step < STEPS; step++) {
                test.step(step);
                test.compareAll();
            }
        }
        Due.end();
    }

    private int below(int bound) {
        state = state * 6364136223846793005L + 1442695040888963407L;
        return (int) ((state >>> 33) % bound);
    }

    private int odd() {
        return ODD_NUMBERS[below(ODD_NUMBERS.length)];
    }

    private int anyId() {
        return below(10) == 0 ? odd() : below(2) == 0 ? below(model.valueCount) : 8 + below(4);
    }

    private int register() {
        return below(15) == 0 ? odd() : 8 + below(4);
    }

    private int value() {
        return below(15) == 0 ? odd() : below(model.valueCount + 1) - 1;
    }

    private int count() {
        int kind = below(12);
        if (kind == 0) {
            return odd();
        }
        if (kind == 1) {
            return model.capacity - model.rows.size() + below(3) - 1;
        }
        return kind < 5 ? 31 - model.rows.size() % 31 + 31 * below(3) : below(20);
    }

    private void step(int number) {
        switch (below(8)) {
            case 0, 1, 2 -> append(number);
            case 3 -> select(number);
            case 4 -> clear(number);
            default -> combine(number);
        }
    }

    private void append(int number) {
        int value = value();
        int count = below(4) == 0 ? 1 : count();
        String call = named(number, "append(" + value + ", " + count + ")");
        boolean got = count == 1 ? index.appendRow(value) : index.appendRun(value, count);
        Due.due(call, got, model.appendRun(value, count));
    }

    private void select(int number) {
        int dst = register();
        int lo = value();
        int hi = below(2) == 0 ? value() : odd();
        String call = named(number, "selectRange(" + dst + ", " + lo + ", " + hi + ")");
        Due.due(call, index.selectRange(dst, lo, hi), model.selectRange(dst, lo, hi));
    }

    private void clear(int number) {
        int dst = register();
        String call = named(number, "clearResult(" + dst + ")");
        Due.due(call, index.clearResult(dst), model.clearResult(dst));
    }

    private void combine(int number) {
        int op = below(20) == 0 ? odd() : 1 + below(6);
        int dst = register();
        int a = anyId();
        int b = anyId();
        String call = named(number, "combine(" + op + ", " + dst + ", " + a + ", " + b + ")");
        Due.due(call, index.combine(op, dst, a, b), model.combine(op, dst, a, b));
    }

    private String named(int number, String call) {
        run = run.replaceAll(" step .*", "") + " step " + number + " " + call;
        return run;
    }

    private void compareAll() {
        Due.due(run + " getRowCount()", index.getRowCount(), model.rows.size());
        Due.due(run + " getCapacity()", index.getCapacity(), model.capacity);
        Due.due(run + " getValueCount()", index.getValueCount(), model.valueCount);
        compareRows();
        for (int id = -2; id <= 13; id++) {
            if (model.isValid(id)) {
                compareBitmap(id);
            } else {
                compareNotValid(id);
            }
        }
    }

    private void compareRows() {
        for (int row = 0; row < model.rows.size(); row++) {
            Due.due(run + " getValueAt", index.getValueAt(row), model.rows.get(row));
        }
        Due.due(run + " getValueAt(-1)", index.getValueAt(-1), -2);
        Due.due(run + " getValueAt(N)", index.getValueAt(model.rows.size()), -2);
    }

    private void compareBitmap(int id) {
        List<Boolean> bits = model.bits(id);
        List<Integer> words = Model.words(bits);
        int ones = 0;
        for (int row = -1; row <= bits.size() + 31; row++) {
            boolean want = Model.bit(bits, row);
            ones += want ? 1 : 0;
            Due.due(run + " testBit", index.testBit(id, row), want);
        }
        Due.due(run + " getLength", index.getLength(id), bits.size());
        Due.due(run + " countBits", index.countBits(id), ones);
        Due.due(run + " getWordCount", index.getWordCount(id), words.size());
        for (int i = 0; i < words.size(); i++) {
            Due.due(run + " getWord", index.getWord(id, i), words.get(i));
        }
        Due.due(run + " getWord(id, -1)", index.getWord(id, -1), 0);
        Due.due(run + " getWord(id, count)", index.getWord(id, words.size()), 0);
        for (int i = 0; i < 6; i++) {
            int from = i == 0 ? odd() : below(bits.size() + 2) - 1;
            int want = Model.nextSetRow(bits, from);
            Due.due(run + " nextSetRow(id, " + from + ")", index.nextSetRow(id, from), want);
        }
    }

    private void compareNotValid(int id) {
        Due.due(run + " getLength(" + id + ")", index.getLength(id), -1);
        Due.due(run + " countBits(" + id + ")", index.countBits(id), -1);
        Due.due(run + " getWordCount(" + id + ")", index.getWordCount(id), -1);
        Due.due(run + " getWord(" + id + ", 0)", index.getWord(id, 0), 0);
        Due.due(run + " nextSetRow(" + id + ", 0)", index.nextSetRow(id, 0), -1);
        Due.due(run + " testBit(" + id + ", 0)", index.testBit(id, 0), false);
    }
}
