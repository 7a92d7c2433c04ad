import java.util.List;
import java.util.function.Consumer;
import java.util.function.Predicate;
import java.util.function.Supplier;

/** Holds an index that got a call against one that was made the same way and did not get it. */
final class Twins {
    private Twins() {
    }

    /** The call answers false, and nothing tells that it was made, neither at once nor later. */
    static void refused(String call, Supplier<WahBitmapIndex> made, Predicate<WahBitmapIndex> run) {
        WahBitmapIndex x = made.get();
        List<String> before = Snapshot.of(x);
        Due.due(call, run.test(x), false);
        Due.same("after " + call, Snapshot.of(x), before);
        sameLater(call, x, made.get());
    }

    /** Whichever method is asked first after the call, it answers as if there had been none. */
    static void readsOnly(
            String call, Supplier<WahBitmapIndex> made, Consumer<WahBitmapIndex> ask) {
        for (String method : Snapshot.methods()) {
            WahBitmapIndex x = made.get();
            ask.accept(x);
            List<String> want = Snapshot.by(method, made.get());
            Due.same("after " + call, Snapshot.by(method, x), want);
        }
        WahBitmapIndex x = made.get();
        ask.accept(x);
        sameLater(call, x, made.get());
    }

    private static void sameLater(String call, WahBitmapIndex x, WahBitmapIndex twin) {
        growAll(x);
        growAll(twin);
        Due.same("some calls after " + call, Snapshot.of(x), Snapshot.of(twin));
    }

    // A bit that was left beyond the end of a bitmap comes to light only when the bitmap grows.
    private static void growAll(WahBitmapIndex x) {
        x.appendRun(-1, x.getCapacity() - x.getRowCount());
        for (int id : Ids.results()) {
            x.combine(4, id, id, 0);
        }
    }
}
