import java.util.List;
import java.util.function.Supplier;

/** Indexes that several tests start from. */
final class Samples {
    private Samples() {
    }

    /** An index without rows, one with room left, one that is full, and the largest one. */
    static List<Supplier<WahBitmapIndex>> states(int valueCount) {
        return List.of(
            () -> new WahBitmapIndex(3, valueCount),
            () -> mixed(valueCount),
            () -> mixedAndFull(valueCount),
            () -> onesInEveryGroup(valueCount));
    }

    /** 496 rows, and a 1 in each group of each bitmap, so that none can change unseen. */
    private static WahBitmapIndex onesInEveryGroup(int valueCount) {
        WahBitmapIndex x = new WahBitmapIndex(16, valueCount);
        for (int row = 0; row < 496; row++) {
            x.appendRow(row % (valueCount + 1) - 1);
        }
        for (int id : Ids.results()) {
            x.combine(id % 2 == 0 ? 5 : 6, id, id % valueCount, 0);
        }
        return x;
    }

    static WahBitmapIndex mixed(int valueCount) {
        return mixed(3, valueCount);
    }

    /** 70 rows; register 8 has 20 ones, 9 has 31 zeros, 10 is empty, 11 has all 70 rows. */
    static WahBitmapIndex mixed(int groups, int valueCount) {
        WahBitmapIndex x = new WahBitmapIndex(groups, valueCount);
        x.appendRun(0, 20);
        x.combine(6, 8, 0, 0);
        x.appendRun(0, 11);
        x.combine(5, 9, 0, 0);
        x.appendRun(-1, 19);
        x.appendRun(valueCount - 1, 20);
        x.combine(5, 11, 0, 0);
        return x;
    }

    static WahBitmapIndex mixedAndFull(int valueCount) {
        WahBitmapIndex x = mixed(valueCount);
        x.appendRun(0, 23);
        return x;
    }

    /** An index with the values 0 and 1, and runs of rows, each given as a value and a count. */
    static WahBitmapIndex ofRuns(int... runs) {
        WahBitmapIndex x = new WahBitmapIndex(16, 2);
        for (int i = 0; i < runs.length; i += 2) {
            Due.taken("appendRun(" + runs[i] + ", " + runs[i + 1] + ")",
                x.appendRun(runs[i], runs[i + 1]));
        }
        return x;
    }

    /** The largest index, filled to its end with value 3, which every register copies. */
    static WahBitmapIndex largest() {
        WahBitmapIndex x = new WahBitmapIndex(16, 8);
        x.appendRun(3, 496);
        for (int id : Ids.results()) {
            x.combine(6, id, 3, 0);
        }
        return x;
    }

    /** Eight values and 20 null rows, while every register holds 20 ones. */
    static WahBitmapIndex nullRowsAndOnes() {
        WahBitmapIndex x = new WahBitmapIndex(1, 8);
        x.appendRun(-1, 20);
        for (int id : Ids.results()) {
            x.combine(5, id, 0, 0);
        }
        return x;
    }

    /** Two full groups of value 0, which every register selects. */
    static WahBitmapIndex onesEverywhere(int valueCount) {
        WahBitmapIndex x = new WahBitmapIndex(2, valueCount);
        x.appendRun(0, 62);
        for (int id : Ids.results()) {
            x.selectRange(id, 0, 0);
        }
        return x;
    }

    /** Register 8 gets 0011 and register 9 gets 0101, in a column of the rows 0, 1, 2, 3. */
    static WahBitmapIndex truthTable() {
        WahBitmapIndex x = new WahBitmapIndex(1, 4);
        for (int value = 0; value < 4; value++) {
            x.appendRow(value);
        }
        x.selectRange(8, 2, 3);
        x.combine(2, 9, 1, 3);
        return x;
    }
}
