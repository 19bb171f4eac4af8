import java.util.ArrayList;
import java.util.List;
import java.util.Map;
import java.util.Set;
import java.util.TreeSet;
import java.util.function.Supplier;
import java.util.function.ToLongFunction;

/** Every refused call, by every reason: the first number on either side that is not taken, and the extremes. */
final class Refusals extends Tables {
    private record Row(String text, Supplier<TableSetter> made, int want, int finding, ToLongFunction<TableSetter> it) {
        boolean calls(String name) {
            return text.startsWith(name + "(");
        }

        void run() {
            if (finding == 0) {
                Twins.refused(text, made, want, it);
            } else {
                Twins.found(text, made, finding, it);
            }
        }
    }

    private static final List<Row> ROWS = new ArrayList<>();

    private Refusals() {
    }

    private static void bad(String text, ToLongFunction<TableSetter> it) {
        ROWS.add(new Row(text, Tables::rich, BAD, 0, it));
    }

    private static void refused(int want, String text, ToLongFunction<TableSetter> it) {
        ROWS.add(new Row(text, Tables::rich, want, 0, it));
    }

    private static void found(int finding, String text, ToLongFunction<TableSetter> it) {
        ROWS.add(new Row(text, Tables::rich, -3, finding, it));
    }

    static {
        table();
        cell();
        ofACell();
        words();
        copies();
        measures();
        toldOnes();
    }

    private static void table() {
        for (int r : new int[] {0, 17, -1, LEAST_INT, MOST_INT}) {
            bad("table(" + r + ", 3, 1)", x -> x.table(r, 3, 1));
        }
        for (int c : new int[] {0, 7, -1, LEAST_INT, MOST_INT}) {
            bad("table(6, " + c + ", 1)", x -> x.table(6, c, 1));
        }
        for (int g : new int[] {-1, 4, LEAST_INT, MOST_INT}) {
            bad("table(6, 3, " + g + ")", x -> x.table(6, 3, g));
        }
        for (int column : new int[] {-1, 3, LEAST_INT, MOST_INT}) {
            bad("weight(" + column + ", 2)", x -> x.weight(column, 2));
        }
        for (int w : new int[] {0, 10, -1, LEAST_INT, MOST_INT}) {
            bad("weight(0, " + w + ")", x -> x.weight(0, w));
        }
        for (int k : new int[] {-1, 10, LEAST_INT, MOST_INT}) {
            bad("note(" + k + ", 2)", x -> x.note(k, 2));
        }
        for (int h : new int[] {0, 7, -1, LEAST_INT, MOST_INT}) {
            bad("note(2, " + h + ")", x -> x.note(2, h));
        }
    }

    private static void cell() {
        int[][] bad = {{-1, 4, 2, 1, 1}, {4, 4, 2, 1, 1}, {LEAST_INT, 4, 2, 1, 1}, {MOST_INT, 4, 2, 1, 1},
            {0, -1, 2, 1, 1}, {0, 6, 2, 1, 1}, {0, LEAST_INT, 2, 1, 1}, {0, MOST_INT, 2, 1, 1}, {0, 4, -1, 1, 1},
            {0, 4, 3, 1, 1}, {0, 4, LEAST_INT, 1, 1}, {0, 4, MOST_INT, 1, 1}, {0, 4, 2, 0, 1}, {0, 4, 2, -1, 1},
            {0, 4, 2, LEAST_INT, 1}, {0, 4, 2, 1, 0}, {0, 4, 2, 1, -1}, {0, 4, 2, 1, LEAST_INT}};
        for (int[] b : bad) {
            bad(named("cell", b), x -> x.cell(b[0], b[1], b[2], b[3], b[4]));
        }
        int[][] beyond = {{0, 5, 2, 2, 1}, {0, 4, 2, 3, 1}, {0, 4, 2, 1, 2}, {0, 5, 0, 1, 4}, {3, 4, 2, MOST_INT, 1},
            {2, 4, 2, 1, MOST_INT}, {1, 5, 2, MOST_INT, MOST_INT}};
        for (int[] b : beyond) {
            found(BEYOND, named("cell", b), x -> x.cell(b[0], b[1], b[2], b[3], b[4]));
        }
        int[][] clashes = {{0, 4, 0, 1, 1}, {1, 4, 1, 1, 2}, {2, 3, 0, 2, 1}, {3, 0, 0, 6, 3}, {0, 1, 1, 1, 1}};
        for (int[] b : clashes) {
            found(CLASH, named("cell", b), x -> x.cell(b[0], b[1], b[2], b[3], b[4]));
        }
        int[][] full = {{0, 15, 5, 1, 1}, {1, 8, 0, 1, 6}, {3, 15, 5, 2, 1}, {0, 0, 0, 1, 1}, {2, 15, 5, 1, MOST_INT}};
        for (int[] b : full) {
            ROWS.add(new Row(named("cell", b), Tables::full, FULL, 0, x -> x.cell(b[0], b[1], b[2], b[3], b[4])));
        }
    }

    private static String named(String call, int[] b) {
        StringBuilder text = new StringBuilder(call).append("(");
        for (int i = 0; i < b.length; i++) {
            text.append(i == 0 ? "" : ", ").append(b[i]);
        }
        return text.append(")").toString();
    }

    /** What every call that takes a cell refuses: a number that is none (6 is the first), one that is gone (4). */
    private static void ofACell() {
        for (int none : new int[] {-1, 6, 40, LEAST_INT, MOST_INT}) {
            bad("drop(" + none + ")", x -> x.drop(none));
            bad("told(" + none + ", 0)", x -> x.told(none, 0));
            bad("is(" + none + ", 0)", x -> x.is(none, 0));
            bad("words(" + none + ", 1)", x -> x.words(none, 1));
            bad("word(" + none + ", 0, 1)", x -> x.word(none, 0, 1));
            bad("mean(" + none + ")", x -> x.mean(none));
            bad("calls(" + none + ", 1)", x -> x.calls(none, 1));
            bad("fix(" + none + ", 1)", x -> x.fix(none, 1));
            bad("lines(" + none + ", 1)", x -> x.lines(none, 1));
            bad("want(" + none + ", 0)", x -> x.want(none, 0));
        }
        found(NOTHING, "drop(4)", x -> x.drop(4));
        found(NOTHING, "told(4, 6)", x -> x.told(4, 6));
        found(NOTHING, "is(4, 0)", x -> x.is(4, 0));
        found(NOTHING, "words(4, 12)", x -> x.words(4, 12));
        found(NOTHING, "word(4, 0, 20)", x -> x.word(4, 0, 20));
        found(NOTHING, "mean(4)", x -> x.mean(4));
        found(NOTHING, "calls(4, 1023)", x -> x.calls(4, 1023));
        found(NOTHING, "fix(4, 60)", x -> x.fix(4, 60));
        found(NOTHING, "lines(4, 400)", x -> x.lines(4, 400));
        found(NOTHING, "want(4, 1)", x -> x.want(4, 1));
        found(NOUGHT, "mean(5)", x -> x.mean(5));
        found(UNLIKE, "fix(0, 5)", x -> x.fix(0, 5));
        found(UNLIKE, "fix(1, 1)", x -> x.fix(1, 1));
        found(UNLIKE, "fix(3, 60)", x -> x.fix(3, 60));
        for (int wrong : new int[] {-1, 7, LEAST_INT, MOST_INT}) {
            bad("told(1, " + wrong + ")", x -> x.told(1, wrong));
        }
        for (int wrong : new int[] {-1, 4, LEAST_INT, MOST_INT}) {
            bad("is(1, " + wrong + ")", x -> x.is(1, wrong));
        }
        for (int wrong : new int[] {-1, 1024, LEAST_INT, MOST_INT}) {
            bad("calls(1, " + wrong + ")", x -> x.calls(1, wrong));
        }
        for (int wrong : new int[] {0, 61, -1, LEAST_INT, MOST_INT}) {
            bad("fix(2, " + wrong + ")", x -> x.fix(2, wrong));
        }
        for (int wrong : new int[] {0, 401, -1, LEAST_INT, MOST_INT}) {
            bad("lines(1, " + wrong + ")", x -> x.lines(1, wrong));
        }
        for (int wrong : new int[] {-1, 2, LEAST_INT, MOST_INT}) {
            bad("want(1, " + wrong + ")", x -> x.want(1, wrong));
        }
    }

    private static void words() {
        for (int n : new int[] {13, 14, MOST_INT}) {
            bad("words(1, " + n + ")", x -> x.words(1, n));
        }
        for (int n : new int[] {-1, -13, LEAST_INT}) {
            found(SIZE, "words(1, " + n + ")", x -> x.words(1, n));
        }
        for (int n : new int[] {0, 21, -1, LEAST_INT, MOST_INT}) {
            bad("word(1, 1, " + n + ")", x -> x.word(1, 1, n));
        }
        for (int i : new int[] {-1, 3, 11, 12, LEAST_INT, MOST_INT}) {
            found(BEYOND, "word(1, " + i + ", 2)", x -> x.word(1, i, 2));
        }
        found(BEYOND, "word(5, 0, 2)", x -> x.word(5, 0, 2));
    }

    /** Cell 1 has 3 pieces, cell 3 has 5, cell 5 none. */
    private static void copies() {
        for (int none : new int[] {-1, 6, 40, LEAST_INT, MOST_INT}) {
            bad("copy(" + none + ", 0, 1, 0, 1)", x -> x.copy(none, 0, 1, 0, 1));
            bad("copy(1, 0, " + none + ", 0, 1)", x -> x.copy(1, 0, none, 0, 1));
        }
        found(NOTHING, "copy(4, 0, 1, 0, 0)", x -> x.copy(4, 0, 1, 0, 0));
        found(NOTHING, "copy(1, 0, 4, 0, 0)", x -> x.copy(1, 0, 4, 0, 0));
        found(NOTHING, "copy(4, 0, 4, 0, 0)", x -> x.copy(4, 0, 4, 0, 0));
        int[][] beyond = {{1, 0, 3, 0, 4}, {1, 1, 3, 0, 3}, {1, 3, 3, 0, 1}, {3, 0, 1, 0, 4}, {3, 0, 1, 1, 3},
            {3, 0, 1, 3, 1}, {1, -1, 3, 0, 1}, {1, 0, 3, -1, 1}, {1, 0, 3, 0, -1}, {1, 4, 3, 0, 0}, {1, 0, 3, 6, 0},
            {1, -1, 3, 0, 0}, {1, 0, 3, -1, 0}, {5, 0, 1, 0, 1}, {1, 0, 5, 0, 1}, {5, 1, 5, 0, 0}, {5, 0, 5, 1, 0},
            {1, 0, 1, 1, 3}, {1, MOST_INT, 3, 0, 1}, {1, 0, 3, MOST_INT, 1}, {1, 1, 3, 1, MOST_INT},
            {1, MOST_INT, 3, MOST_INT, MOST_INT}, {1, LEAST_INT, 3, 0, 1}, {1, 0, 3, LEAST_INT, 1},
            {1, 0, 3, 0, LEAST_INT}, {1, LEAST_INT, 3, LEAST_INT, LEAST_INT}, {1, 4, 3, 1, -2}, {1, MOST_INT, 3, 0, 0}};
        for (int[] b : beyond) {
            found(BEYOND, named("copy", b), x -> x.copy(b[0], b[1], b[2], b[3], b[4]));
        }
    }

    /** All of L and the gaps are 15. */
    private static void measures() {
        for (int column : new int[] {-1, 3, LEAST_INT, MOST_INT}) {
            bad("natural(" + column + ", 0)", x -> x.natural(column, 0));
            bad("width(" + column + ")", x -> x.width(column));
            bad("on(0, " + column + ")", x -> x.on(0, column));
        }
        for (int what : new int[] {-1, 2, LEAST_INT, MOST_INT}) {
            bad("natural(0, " + what + ")", x -> x.natural(0, what));
        }
        for (int row : new int[] {-1, 6, LEAST_INT, MOST_INT}) {
            bad("on(" + row + ", 0)", x -> x.on(row, 0));
            bad("height(" + row + ")", x -> x.height(row));
            bad("pageOf(" + row + ")", x -> x.pageOf(row));
            bad("mayBreak(" + row + ")", x -> x.mayBreak(row));
        }
        for (int total : new int[] {-1, 401, LEAST_INT, MOST_INT}) {
            bad("set(" + total + ")", x -> x.set(total));
            bad("tight(" + total + ", 20000)", x -> x.tight(total, 20000));
        }
        for (int n : new int[] {0, 20001, -1, LEAST_INT, MOST_INT}) {
            bad("tight(16, " + n + ")", x -> x.tight(16, n));
        }
        for (int total : new int[] {0, 1, 14}) {
            refused(STATE, "set(" + total + ")", x -> x.set(total));
            refused(STATE, "tight(" + total + ", 20000)", x -> x.tight(total, 20000));
            refused(STATE, "tight(" + total + ", 1)", x -> x.tight(total, 1));
        }
        refused(SPENT, "tight(16, 1)", x -> x.tight(16, 1));
        refused(SPENT, "tight(17, 5)", x -> x.tight(17, 5));
        refused(SPENT, "tight(400, 20000)", x -> x.tight(400, 20000));
    }

    private static void toldOnes() {
        for (int h : new int[] {0, 201, -1, LEAST_INT, MOST_INT}) {
            bad("pages(" + h + ")", x -> x.pages(h));
        }
        for (int what : new int[] {-1, 4, LEAST_INT, MOST_INT}) {
            bad("page(0, " + what + ")", x -> x.page(0, what));
            bad("page(-1, " + what + ")", x -> x.page(-1, what));
            bad("page(2, " + what + ")", x -> x.page(2, what));
        }
        for (int what : new int[] {-1, 7, LEAST_INT, MOST_INT}) {
            bad("count(" + what + ")", x -> x.count(what));
        }
        for (int f : new int[] {0, 7, -1, LEAST_INT, MOST_INT}) {
            bad("findings(" + f + ")", x -> x.findings(f));
        }
    }

    /** By what a call is refused in some way: BAD and its like, a finding by its own name. */
    static Set<String> namesOf(String call) {
        Map<Integer, String> names = Map.of(BAD, "BAD", FULL, "FULL", STATE, "STATE", SPENT, "SPENT");
        String[] findings = {"", "NOTHING", "BEYOND", "UNLIKE", "NOUGHT", "SIZE", "CLASH"};
        Set<String> told = new TreeSet<>();
        for (Row row : ROWS) {
            if (row.calls(call)) {
                told.add(row.finding == 0 ? names.get(row.want) : findings[row.finding]);
            }
        }
        return told;
    }

    static void all() {
        for (Row row : ROWS) {
            row.run();
        }
    }

    /** Those of a call that answer so; a call of which there is none is no test. */
    static void of(String call, int answer) {
        int n = 0;
        for (Row row : ROWS) {
            if (row.calls(call) && row.want == answer) {
                row.run();
                n++;
            }
        }
        due(call + " is refused in some way with " + answer, n > 0 ? 1 : 0, 1);
    }

    static void ofFinding(String call, int finding) {
        int n = 0;
        for (Row row : ROWS) {
            if (row.calls(call) && row.finding == finding) {
                row.run();
                n++;
            }
        }
        due(call + " is refused in some way with finding " + finding, n > 0 ? 1 : 0, 1);
    }
}
