/** Promises 29 to 32, and for how many calls an object is used. */
final class ToldSentences extends Tables {
    private ToldSentences() {
    }

    static void tell(Sentences s) {
        s.in("What it is");
        s.of("An object is used for at most 512 calls after it has been made", ToldSentences::manyCalls);
        s.in("Promise 29");
        s.of("0 R, 1 C, 2 CELLS ever, 3 CELLS that are there, 4 HEAD ROWS, 5 PAGES, 6 HEIGHT with WIDTHS as they are.",
            ToldSentences::counts);
        s.of("BAD.", () -> Refusals.of("count", BAD));
        s.in("Promise 30");
        s.of("The latest FINDING (0 before any).", ToldSentences::latestFinding);
        s.in("Promise 31");
        s.of("How often a FINDING (1 .. 6) was answered.", ToldSentences::howOften);
        s.of("BAD.", () -> Refusals.of("findings", BAD));
        s.in("Promise 32");
        s.of("h = 17; then h = 31 h + v for each v", ToldSentences::mixedFrom17);
        s.of("R, C, g; WEIGHTS; WIDTHS; NOTES' LINES;", ToldSentences::digestOfTable);
        s.of("of each CELL told() 0 to 6, its PIECES' letters, and its WIDTH if it is FIXED", ToldSentences::digestOfCells);
        s.of("(one that is gone: -1 once)", ToldSentences::digestOfGone);
        s.of("how many PAGES, and page() 0 to 3 of each.", ToldSentences::digestOfPages);
    }

    private static void manyCalls() {
        TableSetter x = new TableSetter();
        due("call 1", x.cell(0, 0, 0, 1, 1), 0);
        for (int call = 2; call <= 511; call++) {
            due("call " + call, x.mean(0), -3);
        }
        due("call 512", x.findings(NOUGHT), 510);
        x = new TableSetter();
        for (int call = 1; call <= 511; call++) {
            due("call " + call, x.table(1 + call % 16, 1 + call % 6, call % 4), (1 + call % 16) * (1 + call % 6));
        }
        due("call 512", x.count(2), 0);
        x = new TableSetter();
        for (int call = 1; call <= 510; call += 2) {
            due("call " + call, x.cell(0, 0, 0, 1, 1), call < 80 ? call / 2 : -2);
            due("call " + (call + 1), x.drop(call / 2), call < 80 ? 1 : -1);
        }
        due("call 511", x.count(2), 40);
        due("call 512", x.count(3), 0);
    }

    private static void counts() {
        TableSetter x = rich();
        int[] want = {6, 3, 6, 5, 1, 2, 8};
        for (int what = 0; what < want.length; what++) {
            due("count(" + what + ")", x.count(what), want[what]);
        }
        due("set: the height is another one", x.set(400), 6);
        due("count(6)", x.count(6), 6);
        due("the pages stay", x.count(5), 2);
        due("pages", x.pages(200), 1);
        due("count(5)", x.count(5), 1);
        due("drop", x.drop(0), 1);
        due("count(2)", x.count(2), 6);
        due("count(3)", x.count(3), 4);
        due("count(4)", x.count(4), 0);
        x = full();
        due("count(0)", x.count(0), 16);
        due("count(1)", x.count(1), 6);
        due("count(2)", x.count(2), 40);
        due("count(3)", x.count(3), 40);
        due("heads in rows 0 to 6", x.count(4), 7);
        int[] fresh = {1, 1, 0, 0, 0, 0, 1};
        for (int what = 0; what < fresh.length; what++) {
            due("a new object: count(" + what + ")", new TableSetter().count(what), fresh[what]);
        }
    }

    private static void latestFinding() {
        TableSetter x = of(2, 2, 0);
        due("0 before any", x.finding(), 0);
        put(x, 0, 0, 0);
        put(x, 0, 1, 1);
        due("bad", x.drop(7), -1);
        due("state", x.set(0), 2);
        due("none", x.on(0, 1), -9);
        due("0 still", x.finding(), 0);
        due("beyond", x.word(0, 0, 1), -3);
        due("2", x.finding(), 2);
        due("unlike", x.fix(0, 1), -3);
        due("3", x.finding(), 3);
        due("nought", x.mean(0), -3);
        due("4", x.finding(), 4);
        due("size", x.words(0, -1), -3);
        due("5", x.finding(), 5);
        due("clash", x.cell(0, 0, 0, 1, 1), -3);
        due("6", x.finding(), 6);
        due("drop", x.drop(1), 1);
        due("6 still", x.finding(), 6);
        due("nothing", x.told(1, 0), -3);
        due("1", x.finding(), 1);
        due("table", x.table(1, 1, 0), 1);
        due("1 still", x.finding(), 1);
    }

    private static void howOften() {
        TableSetter x = rich();
        int[] want = {0, 0, 0, 1, 0, 2};
        for (int f = 1; f <= 6; f++) {
            due("findings(" + f + ")", x.findings(f), want[f - 1]);
        }
        due("nothing", x.drop(4), -3);
        due("beyond", x.word(1, 3, 1), -3);
        due("beyond", x.copy(1, 3, 1, 0, 1), -3);
        due("unlike", x.fix(1, 1), -3);
        due("size", x.words(1, -1), -3);
        due("both are gone: one finding", x.copy(4, 0, 4, 0, 0), -3);
        due("bad is none", x.told(4, 7), -1);
        int[] then = {2, 2, 1, 1, 1, 2};
        for (int f = 1; f <= 6; f++) {
            due("findings(" + f + ")", x.findings(f), then[f - 1]);
        }
        due("table", x.table(1, 1, 0), 1);
        due("they stay", x.findings(1), 2);
        for (int f = 1; f <= 6; f++) {
            due("a new object: findings(" + f + ")", new TableSetter().findings(f), 0);
        }
    }

    private static final long[] NO_NOTES = {1, 1, 1, 1, 1, 1, 1, 1, 1, 1};

    private static long mixed(long[]... all) {
        long h = 17;
        for (long[] values : all) {
            for (long v : values) {
                h = 31 * h + v;
            }
        }
        return h;
    }

    private static void mixedFrom17() {
        TableSetter x = new TableSetter();
        long h = 17;
        for (long v : new long[] {1, 1, 0, 1, 0, 1, 1, 1, 1, 1, 1, 1, 1, 1, 1, 0}) {
            h = 31 * h + v;
        }
        due("a new object", x.digest(), h);
        due("the same again", x.digest(), h);
        due("it wraps around over many cells", full().digest(), fullDigest());
    }

    private static long fullDigest() {
        long h = mixed(new long[] {16, 6, 0}, new long[] {1, 1, 1, 1, 1, 1}, new long[6], NO_NOTES);
        for (int i = 0; i < 40; i++) {
            for (long v : new long[] {i % 4, i / 6, i % 6, 1, 1, 0, 0}) {
                h = 31 * h + v;
            }
            h = i % 4 == 2 ? 31 * h + 1 : h;
        }
        return 31 * h;
    }

    private static void digestOfTable() {
        TableSetter x = of(16, 6, 3);
        due("without cells", x.digest(), mixed(new long[] {16, 6, 3}, new long[] {1, 1, 1, 1, 1, 1}, new long[6],
            NO_NOTES, new long[] {0}));
        for (int column = 0; column < 6; column++) {
            due("weight", x.weight(column, 9 - column), 1);
        }
        for (int k = 0; k <= 9; k++) {
            due("note", x.note(k, 1 + k % 6), 1);
        }
        due("set", x.set(54), 16);
        due("39 by 9 to 4", x.digest(), mixed(new long[] {16, 6, 3}, new long[] {9, 8, 7, 6, 5, 4},
            new long[] {9, 8, 7, 6, 5, 4}, new long[] {1, 2, 3, 4, 5, 6, 1, 2, 3, 4}, new long[] {0}));
        x = of(1, 1, 2);
        due("one column", x.digest(), mixed(new long[] {1, 1, 2, 1, 0}, NO_NOTES, new long[] {0}));
    }

    private static void digestOfCells() {
        TableSetter x = of(3, 2, 1);
        put(x, 1, 0, 0, 4, 2);
        lay(x, 2, 1, 0, 2, 1);
        put(x, 0, 2, 1, 7);
        long[] table = {3, 2, 1, 1, 1, 0, 0};
        due("three cells", x.digest(), mixed(table, NO_NOTES, new long[] {1, 0, 0, 1, 1, 2, 0, 4, 2, 2, 1, 0, 2, 1, 0, 0, 1,
            0, 2, 1, 1, 1, 1, 0, 7, 0}));
        due("fix", x.fix(1, 60), 1);
        due("calls", x.calls(1, 1023), 0);
        due("words", x.words(1, 3), 3);
        due("words", x.words(0, 0), 0);
        due("changed", x.digest(), mixed(table, NO_NOTES, new long[] {1, 0, 0, 1, 1, 0, 0, 2, 1, 0, 2, 1, 3, 1023, 1, 1, 1, 60,
            0, 2, 1, 1, 1, 1, 0, 7, 0}));
    }

    private static void digestOfGone() {
        TableSetter x = of(1, 2, 0);
        put(x, 2, 0, 0, 4, 2);
        put(x, 0, 0, 1, 3);
        due("drop", x.drop(0), 1);
        long[] table = {1, 2, 0, 1, 1, 0, 0};
        due("the first is gone", x.digest(), mixed(table, NO_NOTES, new long[] {-1, 0, 0, 1, 1, 1, 1, 0, 3, 0}));
        due("drop", x.drop(1), 1);
        due("both are gone", x.digest(), mixed(table, NO_NOTES, new long[] {-1, -1, 0}));
        due("table", x.table(1, 2, 0), 2);
        due("none ever", x.digest(), mixed(table, NO_NOTES, new long[] {0}));
    }

    private static void digestOfPages() {
        TableSetter x = of(4, 1, 0);
        put(x, 0, 2, 0);
        due("calls", x.calls(0, 512), 0);
        long[] table = {4, 1, 0, 1, 0};
        long[] cell = {0, 2, 0, 1, 1, 0, 512};
        due("no pages", x.digest(), mixed(table, NO_NOTES, cell, new long[] {0}));
        due("pages(3)", x.pages(3), 2);
        due("two pages", x.digest(), mixed(table, NO_NOTES, cell, new long[] {2, 0, 2, 1, 0, 2, 2, 0, 512}));
        due("pages(200)", x.pages(200), 1);
        due("one page", x.digest(), mixed(table, NO_NOTES, cell, new long[] {1, 0, 4, 195, 512}));
        due("pages(1)", x.pages(1), -9);
        due("no pages", x.digest(), mixed(table, NO_NOTES, cell, new long[] {0}));
    }
}
