import java.util.Arrays;
import java.util.function.Supplier;
import java.util.function.ToLongFunction;

/** Two objects made alike: a call that is refused on the one leaves it like the other. */
final class Twins {
    private Twins() {
    }

    static void bad(String call, Supplier<TableSetter> made, ToLongFunction<TableSetter> it) {
        refused(call, made, -1, it);
    }

    /** Refused with BAD, FULL, STATE or SPENT: no finding is told. */
    static void refused(String call, Supplier<TableSetter> made, long want, ToLongFunction<TableSetter> it) {
        refused(call, made, want, 0, it);
    }

    /** Refused with a finding: that one is told once more. */
    static void found(String call, Supplier<TableSetter> made, int finding, ToLongFunction<TableSetter> it) {
        refused(call, made, -3, finding, it);
    }

    private static void refused(String call, Supplier<TableSetter> made, long want, int finding,
            ToLongFunction<TableSetter> it) {
        TableSetter x = made.get();
        TableSetter y = made.get();
        Due.due(call, it.applyAsLong(x), want);
        Due.due(call + ", then finding()", x.finding(), finding == 0 ? y.finding() : finding);
        for (int f = 1; f <= 6; f++) {
            Due.due(call + ", then findings(" + f + ")", x.findings(f), y.findings(f) + (f == finding ? 1 : 0));
        }
        // CLASH and SPENT have a call of their own that tells of them.
        if (finding != 6) {
            Due.due(call + ", then clash()", x.clash(), y.clash());
        }
        if (want != -6) {
            Due.due(call + ", then tries()", x.tries(), y.tries());
        }
        Due.due(call + " left all as it was", Arrays.equals(Due.picture(x), Due.picture(y)) ? 1 : 0, 1);
        Due.due(call + " left all that comes of it", Arrays.equals(after(x), after(y)) ? 1 : 0, 1);
    }

    /** What becomes of an object when widths and pages are made anew. */
    private static long[] after(TableSetter x) {
        return new long[] {x.set(400), x.pages(200), x.digest(), x.note(0, 1), x.weight(0, 1)};
    }
}
