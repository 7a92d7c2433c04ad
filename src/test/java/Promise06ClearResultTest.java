import java.util.List;
import java.util.function.Supplier;

/** Promise 6: clearResult. */
public final class Promise06ClearResultTest {
    public static void main(String[] args) {
        Due.holds("dst must be a result register id (8..11), else the call is refused: it answers "
            + "false and changes nothing.", Promise06ClearResultTest::wrongDestinations);
        Due.holds("Otherwise dst gets length 0 (no bits, no words) and the answer is true.",
            Promise06ClearResultTest::clearsEachRegister);
        Due.holds("Otherwise dst gets length 0 (no bits", Promise06ClearResultTest::bitsAreGone);
        Due.holds("Nothing else changes.", Promise06ClearResultTest::nothingElseChanges);
        Due.end();
    }

    private static void wrongDestinations() {
        for (int valueCount : new int[] {1, 3, 8}) {
            for (Supplier<WahBitmapIndex> made : Samples.states(valueCount)) {
                for (int dst : Ids.notResults()) {
                    Twins.refused("clearResult(" + dst + ")", made, x -> x.clearResult(dst));
                }
            }
        }
    }

    private static void clearsEachRegister() {
        for (Supplier<WahBitmapIndex> made : List.<Supplier<WahBitmapIndex>>of(
                () -> new WahBitmapIndex(1, 1), () -> Samples.mixed(3), Samples::largest)) {
            for (int dst : Ids.results()) {
                WahBitmapIndex x = made.get();
                Due.taken("clearResult(" + dst + ")", x.clearResult(dst));
                empty(x, dst);
                Due.taken("clearResult(" + dst + ") again", x.clearResult(dst));
                empty(x, dst);
            }
        }
    }

    private static void empty(WahBitmapIndex x, int id) {
        Due.due("getLength(" + id + ")", x.getLength(id), 0);
        Due.due("countBits(" + id + ")", x.countBits(id), 0);
        Due.due("getWordCount(" + id + ")", x.getWordCount(id), 0);
        Due.due("getWord(" + id + ", 0)", x.getWord(id, 0), 0);
        Due.due("nextSetRow(" + id + ", 0)", x.nextSetRow(id, 0), -1);
        Due.due("testBit(" + id + ", 0)", x.testBit(id, 0), false);
    }

    /** Read as an operand beside a longer bitmap, a cleared register is all zeros. */
    private static void bitsAreGone() {
        for (int dst : Ids.results()) {
            WahBitmapIndex x = Samples.largest();
            Due.taken("clearResult(" + dst + ")", x.clearResult(dst));
            Due.taken("combine with zeros", x.combine(2, dst, dst, 2));
            Due.due("bits of " + dst, Read.bits(x, dst), "0".repeat(496));
            Due.taken("clearResult(" + dst + ")", x.clearResult(dst));
            Due.taken("negation", x.combine(5, dst, dst, 2));
            empty(x, dst);
        }
    }

    private static void nothingElseChanges() {
        for (int valueCount : new int[] {1, 4, 8}) {
            for (Supplier<WahBitmapIndex> made : Samples.states(valueCount)) {
                for (int dst : Ids.results()) {
                    WahBitmapIndex x = made.get();
                    List<String> before = Snapshot.without(x, dst);
                    Due.taken("clearResult(" + dst + ")", x.clearResult(dst));
                    Due.same("after clearResult(" + dst + ")", Snapshot.without(x, dst), before);
                }
            }
        }
    }
}
