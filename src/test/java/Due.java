import java.util.function.BooleanSupplier;

/** Counts the answers of one test that are not as due; every test runs in a process of its own. */
final class Due {
    private static int asked = 0;
    private static int wrong = 0;

    private Due() {
    }

    static void due(String call, long got, long want) {
        check(call, String.valueOf(got), String.valueOf(want));
    }

    static void due(String call, boolean got, boolean want) {
        check(call, String.valueOf(got), String.valueOf(want));
    }

    static void due(String call, String got, String want) {
        check(call, got, want);
    }

    /** The call answers true. */
    static void taken(String call, boolean got) {
        due(call, got, true);
    }

    /** The call answers false and leaves everything that the index tells as it was. */
    static void refused(String call, WahBitmapIndex x, BooleanSupplier run) {
        String before = Snapshot.of(x);
        due(call, run.getAsBoolean(), false);
        due("all answers after " + call, Snapshot.of(x), before);
    }

    /** Runs something that must leave everything that the index tells as it was. */
    static void unchanged(String call, WahBitmapIndex x, Runnable run) {
        String before = Snapshot.of(x);
        run.run();
        due("all answers after " + call, Snapshot.of(x), before);
    }

    static boolean anyWrong() {
        return wrong != 0;
    }

    static void end() {
        System.out.println(wrong + " of " + asked + " answers are not as due");
        if (wrong != 0 || asked == 0) {
            System.exit(1);
        }
    }

    private static void check(String call, String got, String want) {
        asked++;
        if (!got.equals(want)) {
            wrong++;
            System.out.println(call + " answered " + got + ", due is " + want);
        }
    }
}
