/** Promise 6: clearResult. */
public final class Promise06ClearResultTest {
    public static void main(String[] args) {
        clearsEachRegister();
        clearedBitsAreGone();
        refusesWrongDestination();
        Due.end();
    }

    private static WahBitmapIndex filled() {
        WahBitmapIndex x = new WahBitmapIndex(3, 4);
        x.appendRun(1, 40);
        x.appendRun(3, 53);
        for (int id : Ids.results()) {
            x.combine(5, id, id - 8, 0);
        }
        return x;
    }

    private static void clearsEachRegister() {
        for (int dst : Ids.results()) {
            WahBitmapIndex x = filled();
            String before = Snapshot.of(x).replace(Snapshot.bitmap(x, dst), "");
            Due.taken("clearResult(" + dst + ")", x.clearResult(dst));
            Due.due("getLength(" + dst + ")", x.getLength(dst), 0);
            Due.due("countBits(" + dst + ")", x.countBits(dst), 0);
            Due.due("getWordCount(" + dst + ")", x.getWordCount(dst), 0);
            Due.due("getWord(" + dst + ", 0)", x.getWord(dst, 0), 0);
            Due.due("nextSetRow(" + dst + ", 0)", x.nextSetRow(dst, 0), -1);
            Due.due("testBit(" + dst + ", 0)", x.testBit(dst, 0), false);
            String after = Snapshot.of(x).replace(Snapshot.bitmap(x, dst), "");
            Due.due("all but " + dst, after, before);
            Due.taken("clearResult again", x.clearResult(dst));
            Due.due("getLength(" + dst + ")", x.getLength(dst), 0);
        }
    }

    private static void clearedBitsAreGone() {
        WahBitmapIndex x = filled();
        Due.taken("clearResult(8)", x.clearResult(8));
        Due.taken("combine(2, 9, 8, 2)", x.combine(2, 9, 8, 2));
        Due.due("bits of 9", Snapshot.bits(x, 9), "0".repeat(93));
    }

    private static void refusesWrongDestination() {
        WahBitmapIndex x = filled();
        for (int dst : Ids.notResults()) {
            Due.refused("clearResult(" + dst + ")", x, () -> x.clearResult(dst));
        }
    }
}
