import java.util.Arrays;

/** Every call with every combination of edges and extremes among its numbers, compared with Plain. */
public final class EdgeTests {
    private static final int LEAST = Integer.MIN_VALUE, MOST = Integer.MAX_VALUE;
    private static final int USES = 60;

    /** Objects to begin with, each as the calls that make it; none but what is told is in them. */
    private static final String[][] STATES = {
        {},
        {"table 2 2 3", "cell 1 0 0 2 2", "words 0 3", "set 5", "pages 1"},
        {"table 6 3 1", "weight 1 4", "note 2 3", "cell 1 0 0 1 3", "cell 0 1 0 1 1", "cell 2 1 1 1 1", "cell 3 2 0 2 1",
            "cell 0 5 2 1 1", "cell 0 4 0 1 2", "words 0 2", "word 0 0 9", "words 1 3", "word 1 1 6", "fix 2 7", "words 3 12",
            "calls 1 5", "calls 3 512", "drop 4", "set 16", "pages 10", "tight 17 5", "cell 0 0 0 2 2", "mean 5"},
        {"table 1 1 0", "cell 2 0 0 1 1", "drop 0", "cell 3 0 0 1 1", "words 1 12", "calls 1 1023", "pages 200", "tight 400 1"},
        {"table 3 6 3", "cell 0 0 0 1 6", "words 0 1", "word 0 0 20", "cell 0 1 0 2 1", "words 1 4", "cell 0 1 1 1 1",
            "set 30", "pages 9", "tight 20 20000"},
    };

    private TableSetter x;
    private Plain y;
    private int uses;

    private EdgeTests() {
    }

    private static long[] asked(String call) {
        String[] words = call.split(" ");
        long[] numbers = new long[words.length];
        numbers[0] = Calls.numbered(words[0]);
        for (int i = 1; i < words.length; i++) {
            numbers[i] = Long.parseLong(words[i]);
        }
        return numbers;
    }

    private static int[] numbersOf(long[] asked) {
        int[] numbers = new int[asked.length - 1];
        for (int i = 0; i < numbers.length; i++) {
            numbers[i] = (int) asked[i + 1];
        }
        return numbers;
    }

    private void begin(int state) {
        x = new TableSetter();
        y = new Plain();
        uses = 0;
        for (String call : STATES[state]) {
            long[] asked = asked(call);
            int[] numbers = numbersOf(asked);
            Due.due(call, Calls.on(x, (int) asked[0], numbers), Calls.on(y, (int) asked[0], numbers));
        }
    }

    private static int[] around(int least, int most) {
        return Arrays.stream(new int[] {LEAST, least - 1, least, least + 1, most - 1, most, most + 1, MOST}).distinct().toArray();
    }

    /** The edges of each number that a call takes. */
    private int[][] edges(String call) {
        int[] cells = around(0, y.cells.size() - 1);
        int[] rows = around(0, y.rCount - 1);
        int[] columns = around(0, y.cCount - 1);
        int[] places = around(0, 3);
        switch (call) {
            case "table": return new int[][] {around(1, 16), around(1, 6), around(0, 3)};
            case "weight": return new int[][] {columns, around(1, 9)};
            case "note": return new int[][] {around(0, 9), around(1, 6)};
            case "cell": return new int[][] {{LEAST, -1, 0, 1, 3, 4, MOST}, rows, columns, around(1, y.rCount), around(1, y.cCount)};
            case "told": return new int[][] {cells, around(0, 6)};
            case "is": return new int[][] {cells, around(0, 3)};
            case "on": return new int[][] {rows, columns};
            case "words": return new int[][] {cells, around(0, 12)};
            case "word": return new int[][] {cells, around(0, 11), around(1, 20)};
            case "copy": return new int[][] {cells, places, cells, places, around(0, 12)};
            case "calls": return new int[][] {cells, around(0, 1023)};
            case "fix": return new int[][] {cells, around(1, 60)};
            case "lines": return new int[][] {cells, around(1, 400)};
            case "want": return new int[][] {cells, around(0, 1)};
            case "natural": return new int[][] {columns, around(0, 1)};
            case "set": return new int[][] {totals()};
            case "tight": return new int[][] {totals(), {LEAST, -1, 0, 1, 5, 6, 7, 19999, 20000, 20001, MOST}};
            case "width": return new int[][] {columns};
            case "height": case "pageOf": case "mayBreak": return new int[][] {rows};
            case "pages": return new int[][] {lineCounts()};
            case "page": return new int[][] {around(0, y.pages.size() - 1), around(0, 3)};
            case "count": case "findings": return new int[][] {around(0, 7)};
            case "drop": case "mean": return new int[][] {cells};
            default: return new int[0][];
        }
    }

    /** All of L and all of B, one beside them, and how far a total may go. */
    private int[] totals() {
        int least = (y.cCount - 1) * y.gap;
        int best = least;
        for (int c = 0; c < y.cCount; c++) {
            least += y.natural(c, 0);
            best += y.natural(c, 1);
        }
        return new int[] {LEAST, -1, 0, 1, least - 1, least, least + 1, best - 1, best, best + 1, 399, 400, 401, MOST};
    }

    private int[] lineCounts() {
        int[] all = new int[40];
        for (int h = 0; h < all.length; h++) {
            all[h] = h - 1;
        }
        all[36] = LEAST;
        all[37] = 200;
        all[38] = 201;
        all[39] = MOST;
        return all;
    }

    private void all(int state, int call, int[][] edges, int[] numbers, int at) {
        if (at < numbers.length) {
            for (int n : edges[at]) {
                numbers[at] = n;
                all(state, call, edges, numbers, at + 1);
            }
            return;
        }
        if (uses++ >= USES) {
            begin(state);
        }
        String text = "state " + state + ": " + Calls.NAMES[call] + Arrays.toString(numbers);
        long got = Calls.on(x, call, numbers);
        Due.due(text, got, Calls.on(y, call, numbers));
        standing(text);
        if (got >= 0) {
            begin(state);
        }
    }

    private void standing(String text) {
        Due.due(text + ", digest()", x.digest(), y.digest());
        Due.due(text + ", finding()", x.finding(), y.finding);
        Due.due(text + ", findings()", x.findings(Math.max(1, y.finding)), y.findings(Math.max(1, y.finding)));
        Due.due(text + ", clash()", x.clash(), y.clash);
        Due.due(text + ", tries()", x.tries(), y.tries);
    }

    public static void main(String[] args) {
        for (int state = 0; state < STATES.length; state++) {
            for (int call = 0; call < Calls.NAMES.length; call++) {
                EdgeTests tests = new EdgeTests();
                tests.begin(state);
                int[][] edges = tests.edges(Calls.NAMES[call]);
                tests.all(state, call, edges, new int[edges.length], 0);
            }
        }
        Due.end();
    }
}
