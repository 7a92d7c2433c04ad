import java.util.List;

/** Counts the answers of one test that are not as due; every test runs in a process of its own. */
final class Due {
    // One fault may show in very many answers; those beyond this number are only counted.
    private static final int MOST_TOLD = 200;

    // A test takes a few seconds; one that is still running then waits for a call without end.
    private static final long MOST_MILLISECONDS = 120_000;

    private static int asked = 0;
    private static int wrong = 0;

    static {
        Thread watch = new Thread(Due::endWhenStuck);
        watch.setDaemon(true);
        watch.start();
    }

    private Due() {
    }

    /** Runs the checks of one sentence of the document, and tells the sentence if one fails. */
    static void holds(String sentence, Runnable checks) {
        int askedBefore = asked;
        int wrongBefore = wrong;
        try {
            checks.run();
        } catch (RuntimeException thrown) {
            fault("a call threw " + thrown);
        }
        if (asked == askedBefore) {
            fault("nothing was asked");
        }
        if (wrong > wrongBefore) {
            System.out.println("so this sentence does not hold: " + sentence);
        }
    }

    static void due(String call, long got, long want) {
        check(call, String.valueOf(got), String.valueOf(want));
    }

    static void due(String call, boolean got, boolean want) {
        check(call, String.valueOf(got), String.valueOf(want));
    }

    static void due(String call, String got, String want) {
        check(call, got, want);
    }

    /** The call answers true. */
    static void taken(String call, boolean got) {
        due(call, got, true);
    }

    /** Two snapshots tell the same, line by line. */
    static void same(String when, List<String> got, List<String> want) {
        due("lines " + when, got.size(), want.size());
        for (int line = 0; line < got.size() && line < want.size(); line++) {
            check(when, got.get(line), want.get(line));
        }
    }

    static boolean anyWrong() {
        return wrong != 0;
    }

    static void end() {
        System.out.println(wrong + " of " + asked + " answers are not as due");
        if (wrong != 0 || asked == 0) {
            System.exit(1);
        }
    }

    private static void endWhenStuck() {
        try {
            Thread.sleep(MOST_MILLISECONDS);
        } catch (InterruptedException stopped) {
            return;
        }
        System.out.println("a call does not end");
        System.exit(1);
    }

    private static void check(String call, String got, String want) {
        asked++;
        if (!got.equals(want)) {
            fault(call + " answered " + got + ", due is " + want);
        }
    }

    private static void fault(String text) {
        wrong++;
        if (wrong <= MOST_TOLD) {
            System.out.println(text);
        }
    }
}
