import java.util.Arrays;
import java.util.function.LongSupplier;

/** What the tests share: counts answers that are not due, and sees that a refused call changes nothing. */
final class Due {
    private static int wrong = 0;
    private static int seen = 0;
    private static boolean quiet = false;

    private Due() {
    }

    static void due(String call, long got, long want) {
        seen++;
        if (got != want) {
            wrong++;
            if (!quiet) {
                System.out.println(call + " answered " + got + ", due is " + want);
            }
        }
    }

    /** How many answers a test sees that are not due; one that it throws counts, too. */
    static int wrongIn(Runnable test) {
        int before = wrong;
        try {
            test.run();
        } catch (RuntimeException thrown) {
            due("a test that throws " + thrown, 1, 0);
        }
        return wrong - before;
    }

    static int seen() {
        return seen;
    }

    static void hush() {
        quiet = true;
    }

    /** A call refused with BAD, FULL or STATE: no finding is told, nothing changes. */
    static void refused(String call, TableSetter x, long want, LongSupplier it) {
        refused(call, x, want, 0, it);
    }

    /** A call refused with a finding: that one is told once more, and nothing else changes. */
    static void found(String call, TableSetter x, int finding, LongSupplier it) {
        refused(call, x, -3, finding, it);
    }

    private static void refused(String call, TableSetter x, long want, int finding, LongSupplier it) {
        long[] before = picture(x);
        int[] counts = findingsOf(x);
        int latest = x.finding();
        due(call, it.getAsLong(), want);
        due(call + ", then finding()", x.finding(), finding == 0 ? latest : finding);
        for (int f = 1; f <= 6; f++) {
            due(call + ", then findings(" + f + ")", x.findings(f), counts[f] + (f == finding ? 1 : 0));
        }
        due(call + " left all as it was", Arrays.equals(before, picture(x)) ? 1 : 0, 1);
    }

    private static int[] findingsOf(TableSetter x) {
        int[] counts = new int[7];
        for (int f = 1; f <= 6; f++) {
            counts[f] = x.findings(f);
        }
        return counts;
    }

    /** All that an object answers without a finding; clash() and tries(), which some refused calls set, aside. */
    static long[] picture(TableSetter x) {
        long[] all = new long[400];
        int n = 0;
        all[n++] = x.digest();
        for (int what = 0; what <= 6; what++) {
            all[n++] = x.count(what);
        }
        for (int row = 0; row < x.count(0); row++) {
            all[n++] = x.height(row);
            all[n++] = x.pageOf(row);
            all[n++] = x.mayBreak(row);
            for (int column = 0; column < x.count(1); column++) {
                all[n++] = x.on(row, column);
            }
        }
        for (int column = 0; column < x.count(1); column++) {
            all[n++] = x.width(column);
            all[n++] = x.natural(column, 0);
            all[n++] = x.natural(column, 1);
        }
        for (int p = 0; p <= x.count(5); p++) {
            for (int what = 0; what <= 3; what++) {
                all[n++] = x.page(p, what);
            }
        }
        return all;
    }

    static void end() {
        System.out.println(seen + " answers seen, " + wrong + " not as due");
        if (wrong != 0 || seen == 0) {
            System.exit(1);
        }
    }
}
