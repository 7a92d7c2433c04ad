/** Indexes that several tests start from. */
final class Samples {
    private Samples() {
    }

    /** The largest index, filled to its end with value 3, which every register copies. */
    static WahBitmapIndex full() {
        WahBitmapIndex x = new WahBitmapIndex(16, 8);
        x.appendRun(3, 496);
        for (int id : Ids.results()) {
            x.combine(6, id, 3, 0);
        }
        return x;
    }

    /** Eight values and 20 null rows, while every register holds 20 ones. */
    static WahBitmapIndex nullRowsAndOnes() {
        WahBitmapIndex x = new WahBitmapIndex(1, 8);
        x.appendRun(-1, 20);
        for (int id : Ids.results()) {
            x.combine(5, id, 0, 0);
        }
        return x;
    }

    /** Two full groups of value 0, which every register selects. */
    static WahBitmapIndex onesEverywhere(int valueCount) {
        WahBitmapIndex x = new WahBitmapIndex(2, valueCount);
        x.appendRun(0, 62);
        for (int id : Ids.results()) {
            x.selectRange(id, 0, 0);
        }
        return x;
    }
}
