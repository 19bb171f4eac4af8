/** For each promise ordinary inputs, the edges that the document names, and what is refused. */
public final class PromiseTests extends Tables {
    private static void constants() {
        due("BAD", TableSetter.BAD, -1);
        due("FULL", TableSetter.FULL, -2);
        due("FINDING", TableSetter.FINDING, -3);
        due("STATE", TableSetter.STATE, -4);
        due("SPENT", TableSetter.SPENT, -6);
        due("NONE", TableSetter.NONE, -9);
    }

    private static void promise1NewObject() {
        TableSetter x = new TableSetter();
        int[] counts = {1, 1, 0, 0, 0, 0, 1};
        for (int what = 0; what < counts.length; what++) {
            due("new: count(" + what + ")", x.count(what), counts[what]);
        }
        due("new: clash()", x.clash(), -9);
        due("new: tries()", x.tries(), 0);
        due("new: finding()", x.finding(), 0);
        due("new: findings(1)", x.findings(NOTHING), 0);
        due("new: on(0, 0)", x.on(0, 0), -9);
        widths("new", x, 0);
        heights("new", x, 1);
        due("new: page(0, 0)", x.page(0, 0), -9);
        due("new: pageOf(0)", x.pageOf(0), -9);
        due("new: mayBreak(0)", x.mayBreak(0), 0);
        due("new: weight", x.weight(0, 1), 1);
        due("new: set(0), so the gap is no matter", x.set(0), 1);
        due("new: digest()", x.digest(), mix(1, 1, 0, 1, 0, 1, 1, 1, 1, 1, 1, 1, 1, 1, 1, 0));
    }

    private static void promise2Table() {
        TableSetter x = of(16, 6, 3);
        due("table(1, 1, 0)", x.table(1, 1, 0), 1);
        due("table(3, 2, 1)", x.table(3, 2, 1), 6);
        put(x, 1, 0, 0, 4, 4);
        put(x, 0, 1, 0, 9);
        due("clash", x.cell(0, 1, 0, 1, 1), -3);
        due("clash()", x.clash(), 1);
        due("weight", x.weight(1, 5), 1);
        due("note", x.note(3, 6), 1);
        due("set(12)", x.set(12), 3);
        due("pages(9)", x.pages(9), 1);
        due("tight(12, 100)", x.tight(12, 100), 3);
        int tries = x.tries();
        due("calls", x.calls(1, 3), 0);
        due("calls", x.calls(0, 3), 0);
        int[][] bad = {{0, 1, 0}, {17, 1, 0}, {1, 0, 0}, {1, 7, 0}, {1, 1, -1}, {1, 1, 4}, {LEAST_INT, 1, 0},
            {MOST_INT, 1, 0}, {1, MOST_INT, 0}, {1, 1, MOST_INT}};
        for (int[] b : bad) {
            Due.refused("table of a wrong size", x, -1, () -> x.table(b[0], b[1], b[2]));
        }
        due("a refused table leaves clash()", x.clash(), 1);
        due("drop", x.drop(0), 1);
        due("table(2, 3, 2)", x.table(2, 3, 2), 6);
        due("tries() stay", x.tries(), tries);
        due("finding() stays", x.finding(), CLASH);
        due("no clash", x.clash(), -9);
        due("no cells ever", x.count(2), 0);
        due("no cells", x.count(3), 0);
        due("no pages", x.count(5), 0);
        due("no page", x.pageOf(1), -9);
        due("no such cell", x.told(0, 0), -1);
        widths("widths are 0", x, 0, 0, 0);
        due("weights are 1", x.weight(1, 2), 1);
        due("notes stay", x.note(3, 1), 6);
        int fresh = x.cell(2, 0, 0, 1, 1);
        due("cells begin again", fresh, 0);
        due("without pieces", x.told(fresh, 5), 0);
        due("without calls", x.told(fresh, 6), 0);
        due("with width 1", x.fix(fresh, 2), 1);
    }

    private static void promise3Weight() {
        TableSetter x = of(2, 3, 0);
        due("weight at first", x.weight(2, 9), 1);
        due("weight again", x.weight(2, 1), 9);
        due("weight of 4", x.weight(0, 4), 1);
        int[][] bad = {{-1, 1}, {3, 1}, {0, 0}, {0, 10}, {LEAST_INT, 1}, {MOST_INT, 1}, {0, LEAST_INT}, {0, MOST_INT}};
        for (int[] b : bad) {
            Due.refused("weight", x, -1, () -> x.weight(b[0], b[1]));
        }
        lay(x, 0, 0, 0, 1, 3, 12);
        naturals("by weights 4, 1, 1", x, 0, 8, 2, 2);
    }

    private static void promise4Note() {
        TableSetter x = of(2, 1, 0);
        due("note at first", x.note(0, 6), 1);
        due("note again", x.note(0, 2), 6);
        due("the last note", x.note(9, 3), 1);
        int[][] bad = {{-1, 1}, {10, 1}, {0, 0}, {0, 7}, {MOST_INT, 1}, {LEAST_INT, 1}, {1, MOST_INT}};
        for (int[] b : bad) {
            Due.refused("note", x, -1, () -> x.note(b[0], b[1]));
        }
        put(x, 0, 0, 0);
        due("calls", x.calls(0, 1 | 1 << 9), 0);
        due("pages(6)", x.pages(6), -9);
        due("pages(7)", x.pages(7), 1);
        due("notes of 2 and 3 lines", x.page(0, 2), 0);
    }

    private static void promise5Cell() {
        TableSetter x = of(4, 3, 0);
        due("cell 0", x.cell(0, 0, 0, 1, 1), 0);
        due("cell 1", x.cell(3, 1, 1, 3, 2), 1);
        due("cell 2, up to the edges", x.cell(1, 0, 2, 1, 1), 2);
        int[][] bad = {{-1, 0, 1, 1, 1}, {4, 0, 1, 1, 1}, {0, -1, 1, 1, 1}, {0, 4, 1, 1, 1}, {0, 0, -1, 1, 1},
            {0, 0, 3, 1, 1}, {0, 0, 1, 0, 1}, {0, 0, 1, 1, 0}, {0, 0, 1, LEAST_INT, 1}, {0, 0, 1, 1, LEAST_INT},
            {MOST_INT, 0, 0, 1, 1}, {0, MOST_INT, 0, 1, 1}, {0, 0, LEAST_INT, 1, 1}, {0, 4, 0, 9, 1}};
        for (int[] b : bad) {
            Due.refused("cell, bad", x, -1, () -> x.cell(b[0], b[1], b[2], b[3], b[4]));
        }
        int[][] beyond = {{0, 3, 0, 2, 1}, {0, 0, 1, 1, 3}, {0, 0, 0, 5, 1}, {0, 1, 0, MOST_INT, 1},
            {0, 0, 1, 1, MOST_INT}, {0, 0, 0, 1, 4}};
        for (int[] b : beyond) {
            Due.found("cell, beyond", x, BEYOND, () -> x.cell(b[0], b[1], b[2], b[3], b[4]));
        }
        int[][] clashes = {{0, 0, 0, 1, 1}, {1, 3, 0, 1, 2}, {2, 0, 1, 2, 1}, {3, 2, 2, 1, 1}, {0, 0, 0, 4, 3}};
        for (int[] b : clashes) {
            Due.found("cell, clash", x, CLASH, () -> x.cell(b[0], b[1], b[2], b[3], b[4]));
        }
        due("beside", x.cell(0, 1, 0, 3, 1), 3);
        due("between", x.cell(0, 0, 1, 1, 1), 4);
        for (int i = 5; i < 40; i++) {
            due("drop", x.drop(i - 1), 1);
            due("cell again", x.cell(0, 0, 1, 1, 1), i);
        }
        due("drop", x.drop(39), 1);
        Due.refused("full", x, -2, () -> x.cell(0, 0, 1, 1, 1));
        Due.refused("full, ahead of beyond", x, -2, () -> x.cell(0, 0, 1, 1, 9));
        Due.refused("full, ahead of clash", x, -2, () -> x.cell(0, 0, 0, 1, 1));
        Due.refused("bad, ahead of full", x, -1, () -> x.cell(0, 0, 1, 1, 0));
        due("table, then not full", x.table(1, 1, 0), 1);
        due("cell 0 again", x.cell(0, 0, 0, 1, 1), 0);
    }

    private static void promise6Clash() {
        TableSetter x = of(3, 3, 0);
        due("none was", x.clash(), -9);
        put(x, 0, 2, 2);
        put(x, 0, 0, 0);
        put(x, 0, 1, 1);
        Due.found("over two", x, CLASH, () -> x.cell(0, 0, 0, 2, 2));
        due("the least of 1, 2", x.clash(), 1);
        Due.found("over all", x, CLASH, () -> x.cell(0, 0, 0, 3, 3));
        due("the least of 0, 1, 2", x.clash(), 0);
        Due.found("over the third", x, CLASH, () -> x.cell(0, 1, 0, 1, 2));
        due("the latest one", x.clash(), 2);
        due("bad", x.cell(9, 1, 1, 1, 1), -1);
        due("beyond", x.cell(0, 1, 1, 1, 3), -3);
        due("another one that is none", x.cell(0, 0, 2, 1, 1), 3);
        due("the latest that was a clash", x.clash(), 2);
        due("drop", x.drop(2), 1);
        due("gone or not", x.clash(), 2);
        due("a place that was left", x.cell(0, 1, 0, 1, 2), 4);
        due("gone cells do not clash", x.clash(), 2);
    }

    private static void promise7Drop() {
        TableSetter x = of(2, 2, 0);
        put(x, 1, 0, 0, 7);
        put(x, 0, 1, 0, 3);
        due("set(9)", x.set(9), 2);
        Due.refused("drop(-1)", x, -1, () -> x.drop(-1));
        Due.refused("drop(2)", x, -1, () -> x.drop(2));
        Due.refused("drop(most)", x, -1, () -> x.drop(MOST_INT));
        due("drop(0)", x.drop(0), 1);
        Due.found("drop again", x, NOTHING, () -> x.drop(0));
        due("cells ever", x.count(2), 2);
        due("cells there", x.count(3), 1);
        due("no head", x.count(4), 0);
        due("its place is free", x.on(0, 0), -9);
        naturals("its want is gone", x, 0, 3, 0);
        due("widths stay", x.width(0) + x.width(1), 9);
        due("the other one", x.drop(1), 1);
        due("none there", x.count(3), 0);
    }

    private static void promise8Told() {
        TableSetter x = of(5, 4, 1);
        lay(x, 3, 1, 2, 3, 2, 5, 6, 7);
        due("calls", x.calls(0, 513), 0);
        int[] facts = {3, 1, 2, 3, 2, 3, 513};
        for (int what = 0; what < facts.length; what++) {
            due("told(0, " + what + ")", x.told(0, what), facts[what]);
        }
        int[][] bad = {{0, -1}, {0, 7}, {-1, 0}, {1, 0}, {MOST_INT, 0}, {0, LEAST_INT}};
        for (int[] b : bad) {
            Due.refused("told", x, -1, () -> x.told(b[0], b[1]));
        }
        due("drop", x.drop(0), 1);
        Due.found("told of one gone", x, NOTHING, () -> x.told(0, 0));
        Due.refused("told, bad ahead of nothing", x, -1, () -> x.told(0, 7));
    }

    private static void promise9Is() {
        TableSetter x = of(4, 1, 0);
        for (int kind = 0; kind <= 3; kind++) {
            put(x, kind, kind, 0);
            for (int other = 0; other <= 3; other++) {
                due("is(" + kind + ", " + other + ")", x.is(kind, other), other == 0 || other == kind ? 1 : 0);
            }
        }
        int[][] bad = {{0, -1}, {0, 4}, {-1, 0}, {4, 0}, {LEAST_INT, 0}, {0, MOST_INT}};
        for (int[] b : bad) {
            Due.refused("is", x, -1, () -> x.is(b[0], b[1]));
        }
        due("drop", x.drop(2), 1);
        Due.found("is of one gone", x, NOTHING, () -> x.is(2, 0));
        Due.refused("is, bad ahead of nothing", x, -1, () -> x.is(2, 4));
    }

    private static void promise10On() {
        TableSetter x = of(4, 4, 0);
        lay(x, 0, 1, 1, 2, 3);
        lay(x, 0, 3, 3, 1, 1);
        int[][] want = {{-9, -9, -9, -9}, {-9, 0, 0, 0}, {-9, 0, 0, 0}, {-9, -9, -9, 1}};
        for (int row = 0; row < 4; row++) {
            for (int column = 0; column < 4; column++) {
                due("on(" + row + ", " + column + ")", x.on(row, column), want[row][column]);
            }
        }
        int[][] bad = {{-1, 0}, {4, 0}, {0, -1}, {0, 4}, {MOST_INT, 0}, {0, LEAST_INT}};
        for (int[] b : bad) {
            Due.refused("on", x, -1, () -> x.on(b[0], b[1]));
        }
        due("drop", x.drop(0), 1);
        due("on one gone", x.on(1, 1), -9);
    }

    private static void promise11Words() {
        TableSetter x = of(2, 1, 0);
        put(x, 0, 0, 0, 9, 9, 9);
        due("words(0, 12)", x.words(0, 12), 12);
        due("of one letter each", x.want(0, 1), 23);
        due("word(0, 11, 3)", x.word(0, 11, 3), 1);
        due("words(0, 2)", x.words(0, 2), 2);
        due("two letters and a blank", x.want(0, 1), 3);
        due("words(0, 12) again", x.words(0, 12), 12);
        due("the old ones are gone", x.word(0, 11, 2), 1);
        due("lines", x.lines(0, 2), 12);
        due("a letter more", x.word(0, 11, 3), 2);
        due("lines after word()", x.lines(0, 2), 13);
        due("a letter less", x.word(0, 11, 2), 3);
        due("lines after word()", x.lines(0, 2), 12);
        due("lines are those of now", x.lines(0, 1), 13);
        due("words(0, 0)", x.words(0, 0), 0);
        due("none", x.told(0, 5), 0);
        due("no lines", x.lines(0, 1), 0);
        Due.refused("words(0, 13)", x, -1, () -> x.words(0, 13));
        Due.refused("words(0, most)", x, -1, () -> x.words(0, MOST_INT));
        Due.refused("words(1, 1)", x, -1, () -> x.words(1, 1));
        Due.refused("words(-1, -1), bad ahead of size", x, -1, () -> x.words(-1, -1));
        Due.found("words(0, -1)", x, SIZE, () -> x.words(0, -1));
        Due.found("words(0, least)", x, SIZE, () -> x.words(0, LEAST_INT));
        due("drop", x.drop(0), 1);
        Due.found("words of one gone", x, NOTHING, () -> x.words(0, 1));
        Due.found("words, nothing ahead of size", x, NOTHING, () -> x.words(0, -1));
        Due.refused("words, bad ahead of nothing", x, -1, () -> x.words(0, 13));
    }

    private static void promise12Word() {
        TableSetter x = of(2, 1, 0);
        put(x, 0, 0, 0, 1, 1, 1);
        due("word(0, 0, 20)", x.word(0, 0, 20), 1);
        due("word(0, 0, 4)", x.word(0, 0, 4), 20);
        due("word(0, 2, 5)", x.word(0, 2, 5), 1);
        due("4 + 1 + 1 + 1 + 5", x.want(0, 1), 12);
        int[][] bad = {{0, 0, 0}, {0, 0, 21}, {0, 0, LEAST_INT}, {0, 9, 21}, {-1, 0, 1}, {1, 0, 1}};
        for (int[] b : bad) {
            Due.refused("word", x, -1, () -> x.word(b[0], b[1], b[2]));
        }
        for (int i : new int[] {-1, 3, 12, MOST_INT, LEAST_INT}) {
            Due.found("word of a place that there is not", x, BEYOND, () -> x.word(0, i, 1));
        }
        due("drop", x.drop(0), 1);
        Due.found("word of one gone", x, NOTHING, () -> x.word(0, 0, 1));
        Due.found("word, nothing ahead of beyond", x, NOTHING, () -> x.word(0, 3, 1));
        Due.refused("word, bad ahead of nothing", x, -1, () -> x.word(0, 0, 0));
    }

    private static void promise13Copy() {
        TableSetter x = of(3, 1, 0);
        put(x, 0, 0, 0, 2, 3, 4, 5);
        put(x, 0, 1, 0, 10, 11, 12);
        put(x, 0, 2, 0);
        due("copy to another", x.copy(0, 1, 1, 0, 2), 1);
        pieces("another", x, 1, 3, 4, 12);
        pieces("the first as it was", x, 0, 2, 3, 4, 5);
        due("copy on itself, upward", x.copy(0, 0, 0, 1, 3), 1);
        pieces("as if taken ahead", x, 0, 2, 2, 3, 4);
        due("copy on itself, downward", x.copy(0, 1, 0, 0, 3), 1);
        pieces("as if taken ahead", x, 0, 2, 3, 4, 4);
        due("lines, before", x.lines(1, 4), 5);
        due("all of one", x.copy(0, 0, 1, 0, 3), 1);
        due("lines are those of now", x.lines(1, 4), 3);
        due("none", x.copy(0, 4, 1, 3, 0), 1);
        due("none of none", x.copy(2, 0, 2, 0, 0), 1);
        int[][] beyond = {{0, 0, 1, 0, 4}, {0, 2, 1, 0, 3}, {0, 0, 1, 2, 2}, {0, -1, 1, 0, 1}, {0, 0, 1, -1, 1},
            {0, 0, 1, 0, -1}, {0, 5, 1, 0, 0}, {0, 0, 1, 4, 0}, {2, 0, 0, 0, 1}, {0, MOST_INT, 1, 0, 1},
            {0, 1, 1, 0, MOST_INT}, {0, 0, 1, LEAST_INT, 1}, {0, 0, 1, 0, LEAST_INT}};
        for (int[] b : beyond) {
            Due.found("copy, beyond", x, BEYOND, () -> x.copy(b[0], b[1], b[2], b[3], b[4]));
        }
        for (int other : new int[] {-1, 3, MOST_INT}) {
            Due.refused("copy to none such", x, -1, () -> x.copy(0, 0, other, 0, 1));
            Due.refused("copy of none such", x, -1, () -> x.copy(other, 0, 0, 0, 1));
        }
        due("drop", x.drop(1), 1);
        Due.found("copy of one gone", x, NOTHING, () -> x.copy(1, 0, 0, 0, 1));
        Due.found("copy to one gone", x, NOTHING, () -> x.copy(0, 0, 1, 0, 1));
        Due.found("copy, nothing ahead of beyond", x, NOTHING, () -> x.copy(0, -1, 1, 0, 1));
        Due.refused("copy, bad ahead of nothing", x, -1, () -> x.copy(1, 0, 3, 0, 1));
    }

    private static void promise14Mean() {
        TableSetter x = of(2, 1, 0);
        put(x, 0, 0, 0, 5, 2, 9);
        due("16 by 3", x.mean(0), 5);
        due("word", x.word(0, 0, 7), 5);
        due("18 by 3", x.mean(0), 6);
        due("words", x.words(0, 1), 1);
        due("1 by 1", x.mean(0), 1);
        due("words", x.words(0, 0), 0);
        Due.found("mean of none", x, NOUGHT, () -> x.mean(0));
        Due.refused("mean(1)", x, -1, () -> x.mean(1));
        Due.refused("mean(-1)", x, -1, () -> x.mean(-1));
        due("drop", x.drop(0), 1);
        Due.found("mean of one gone, ahead of nought", x, NOTHING, () -> x.mean(0));
    }

    private static void promise15Calls() {
        TableSetter x = of(2, 1, 0);
        put(x, 0, 0, 0);
        due("at first", x.calls(0, 1023), 0);
        due("again", x.calls(0, 0), 1023);
        due("and again", x.calls(0, 5), 0);
        int[][] bad = {{0, -1}, {0, 1024}, {0, LEAST_INT}, {0, MOST_INT}, {1, 0}, {-1, 0}};
        for (int[] b : bad) {
            Due.refused("calls", x, -1, () -> x.calls(b[0], b[1]));
        }
        due("told", x.told(0, 6), 5);
        due("drop", x.drop(0), 1);
        Due.found("calls of one gone", x, NOTHING, () -> x.calls(0, 1));
        Due.refused("calls, bad ahead of nothing", x, -1, () -> x.calls(0, 1024));
        due("what is gone calls none", x.pages(2), 1);
        due("no notes", x.page(0, 3), 0);
    }

    private static void promise16Fix() {
        TableSetter x = of(4, 1, 0);
        for (int kind = 0; kind <= 3; kind++) {
            put(x, kind, kind, 0);
        }
        due("at first", x.fix(2, 60), 1);
        due("again", x.fix(2, 1), 60);
        due("and again", x.fix(2, 13), 1);
        naturals("a width wanted", x, 0, 13);
        for (int cell : new int[] {0, 1, 3}) {
            Due.found("fix of another kind", x, UNLIKE, () -> x.fix(cell, 5));
        }
        int[][] bad = {{2, 0}, {2, 61}, {2, LEAST_INT}, {2, MOST_INT}, {0, 61}, {4, 1}, {-1, 1}};
        for (int[] b : bad) {
            Due.refused("fix", x, -1, () -> x.fix(b[0], b[1]));
        }
        due("drop", x.drop(0), 1);
        due("drop", x.drop(2), 1);
        Due.found("fix of one gone", x, NOTHING, () -> x.fix(2, 5));
        Due.found("fix, nothing ahead of unlike", x, NOTHING, () -> x.fix(0, 5));
        Due.refused("fix, bad ahead of nothing", x, -1, () -> x.fix(2, 61));
    }

    private static void promise17Lines() {
        TableSetter x = of(2, 1, 0);
        put(x, 0, 0, 0, 5, 2, 9);
        int[][] want = {{1, 16}, {2, 9}, {3, 6}, {4, 5}, {5, 4}, {7, 4}, {8, 3}, {9, 2}, {17, 2}, {18, 1}, {400, 1}};
        for (int[] w : want) {
            due("lines(0, " + w[0] + ")", x.lines(0, w[0]), w[1]);
        }
        due("lines(0, 8), asked again", x.lines(0, 8), 3);
        due("words", x.words(0, 4), 4);
        due("word", x.word(0, 0, 7), 1);
        due("a rest of 1 goes on: 3 3 1+1 1+1 1", x.lines(0, 3), 4);
        due("word", x.word(0, 0, 6), 7);
        due("a full rest does not: 3 3 1+1 1", x.lines(0, 3), 4);
        due("word", x.word(0, 1, 6), 1);
        due("a long one begins a new line: 5 1 5 1+1+1", x.lines(0, 5), 4);
        due("width 1", x.lines(0, 1), 14);
        Due.refused("lines(0, 0)", x, -1, () -> x.lines(0, 0));
        Due.refused("lines(0, 401)", x, -1, () -> x.lines(0, 401));
        Due.refused("lines(1, 1)", x, -1, () -> x.lines(1, 1));
        Due.refused("lines(-1, 1)", x, -1, () -> x.lines(-1, 1));
        due("drop", x.drop(0), 1);
        Due.found("lines of one gone", x, NOTHING, () -> x.lines(0, 1));
        Due.refused("lines, bad ahead of nothing", x, -1, () -> x.lines(0, 0));
        linesOfTheLongest();
    }

    private static void linesOfTheLongest() {
        TableSetter x = of(1, 1, 0);
        put(x, 0, 0, 0, 20, 20, 20, 20, 20, 20, 20, 20, 20, 20, 20, 20);
        due("all in one line", x.lines(0, 251), 1);
        due("one letter short", x.lines(0, 250), 2);
        due("wider than all", x.lines(0, 252), 1);
        due("letter by letter", x.lines(0, 1), 240);
        due("want", x.want(0, 1), 251);
        due("a width of 0 counts as 1", x.height(0), 240);
    }

    private static void promise18Want() {
        TableSetter x = of(4, 1, 0);
        put(x, 0, 0, 0, 5, 2, 9);
        put(x, 2, 1, 0, 20, 20);
        put(x, 3, 2, 0);
        put(x, 1, 3, 0, 4);
        int[][] want = {{9, 18}, {1, 1}, {0, 0}, {4, 4}};
        for (int cell = 0; cell < 4; cell++) {
            due("least of " + cell, x.want(cell, 0), want[cell][0]);
            due("best of " + cell, x.want(cell, 1), want[cell][1]);
        }
        due("fix", x.fix(1, 60), 1);
        due("least of a fixed one", x.want(1, 0), 60);
        due("best of a fixed one", x.want(1, 1), 60);
        int[][] bad = {{0, -1}, {0, 2}, {4, 0}, {-1, 0}, {0, MOST_INT}};
        for (int[] b : bad) {
            Due.refused("want", x, -1, () -> x.want(b[0], b[1]));
        }
        due("drop", x.drop(0), 1);
        Due.found("want of one gone", x, NOTHING, () -> x.want(0, 0));
        Due.refused("want, bad ahead of nothing", x, -1, () -> x.want(0, 2));
    }

    private static void promise19Natural() {
        TableSetter x = of(4, 3, 1);
        naturals("without cells", x, 1, 0, 0, 0);
        put(x, 0, 0, 0, 9, 8);
        put(x, 0, 1, 0, 3);
        naturals("the most of a column", x, 0, 9, 0, 0);
        naturals("the most of a column", x, 1, 18, 0, 0);
        lay(x, 0, 2, 0, 1, 3, 20);
        naturals("lacks 20 - 9 - 2: 3 each", x, 0, 12, 3, 3);
        naturals("lacks 0; never below least", x, 1, 18, 3, 3);
        due("weight", x.weight(1, 3), 1);
        naturals("9 by 1, 3, 1: 1.8, 5.4, 1.8", x, 0, 11, 5, 2);
        lay(x, 2, 3, 1, 1, 2);
        due("fix", x.fix(3, 6), 1);
        naturals("two ahead of three: 5 by 3, 1: 3.75, 1.25", x, 0, 10, 6, 2);
        for (int what = 0; what <= 1; what++) {
            int w = what;
            Due.refused("natural(-1, ..)", x, -1, () -> x.natural(-1, w));
            Due.refused("natural(3, ..)", x, -1, () -> x.natural(3, w));
        }
        Due.refused("natural(0, -1)", x, -1, () -> x.natural(0, -1));
        Due.refused("natural(0, 2)", x, -1, () -> x.natural(0, 2));
        cellsOfOneBreadth();
    }

    /** Cells on equally many columns see the widths as they were ahead of all of these. */
    private static void cellsOfOneBreadth() {
        TableSetter x = of(2, 3, 0);
        lay(x, 0, 0, 0, 1, 2, 7);
        lay(x, 0, 1, 1, 1, 2, 10);
        naturals("4 3 and 5 5: the most each", x, 0, 4, 5, 5);
        due("a gap is theirs", x.table(1, 2, 3), 2);
        lay(x, 0, 0, 0, 1, 2, 3);
        naturals("3 are in the gap", x, 0, 0, 0);
        due("word", x.word(0, 0, 4), 3);
        naturals("one lacks: the first column", x, 0, 1, 0);
    }

    private static void promise20Set() {
        TableSetter x = of(2, 3, 1);
        put(x, 0, 0, 0, 4, 4, 4);
        put(x, 0, 0, 1, 6, 2);
        put(x, 0, 1, 2, 5);
        naturals("least", x, 0, 4, 6, 5);
        naturals("best", x, 1, 14, 9, 5);
        due("weight", x.weight(0, 2), 1);
        Due.refused("set(16)", x, -4, () -> x.set(16));
        due("set(17)", x.set(17), 4);
        widths("all of least", x, 4, 6, 5);
        heights("all of least", x, 3, 1);
        due("set(18)", x.set(18), 4);
        widths("1 by 10, 3, 0", x, 5, 6, 5);
        due("set(24)", x.set(24), 3);
        widths("7 by 10, 3, 0: 5.38, 1.62", x, 9, 8, 5);
        due("set(30)", x.set(30), 2);
        widths("all of best", x, 14, 9, 5);
        due("set(31)", x.set(31), 2);
        widths("1 above best by 2, 1, 1: 0.5, 0.25, 0.25", x, 15, 9, 5);
        due("set(35)", x.set(35), 2);
        widths("5 above best by 2, 1, 1: 2.5, 1.25, 1.25", x, 17, 10, 6);
        due("set(400)", x.set(400), 2);
        due("to the last point", x.width(0) + x.width(1) + x.width(2) + 2, 400);
        Due.refused("set(-1)", x, -1, () -> x.set(-1));
        Due.refused("set(401)", x, -1, () -> x.set(401));
        Due.refused("set(least)", x, -1, () -> x.set(LEAST_INT));
        Due.refused("set(most)", x, -1, () -> x.set(MOST_INT));
        due("table", x.table(1, 3, 2), 3);
        Due.refused("gaps alone are 4", x, -4, () -> x.set(3));
        due("set(4)", x.set(4), 1);
        widths("nothing is left", x, 0, 0, 0);
        due("set(6)", x.set(6), 1);
        widths("2 by 1, 1, 1: the first columns", x, 1, 1, 0);
    }

    private static TableSetter threeOfFour() {
        TableSetter x = of(2, 3, 0);
        put(x, 0, 0, 0, 6, 6, 6, 6);
        put(x, 0, 0, 1, 3, 3, 3, 1);
        put(x, 0, 0, 2, 1, 1, 1, 1);
        return x;
    }

    private static void promise21Tight() {
        TableSetter x = threeOfFour();
        due("set(15)", x.set(15), 5);
        Due.refused("tight(9, 5)", x, -4, () -> x.tight(9, 5));
        Due.refused("tight(15, 20): 21 there are", x, -6, () -> x.tight(15, 20));
        due("tight(15, 21)", x.tight(15, 21), 5);
        widths("the first of the lowest", x, 6, 3, 6);
        due("tight(30, 20000)", x.tight(30, 20000), 3);
        widths("two lines in two columns", x, 13, 7, 10);
        due("tight(10, 1)", x.tight(10, 1), 5);
        widths("only least", x, 6, 3, 1);
        due("tight(33, 20000)", x.tight(33, 20000), 3);
        widths("the first column as narrow as it may", x, 13, 7, 13);
        int[][] bad = {{-1, 1}, {401, 1}, {15, 0}, {15, 20001}, {9, 0}, {LEAST_INT, 1}, {15, MOST_INT}};
        for (int[] b : bad) {
            Due.refused("tight", x, -1, () -> x.tight(b[0], b[1]));
        }
        Due.refused("more than all tries", x, -6, () -> x.tight(400, 20000));
        Due.refused("state ahead of spent", x, -4, () -> x.tight(0, 1));
        due("table", x.table(1, 6, 3), 6);
        Due.refused("six columns of 385", x, -6, () -> x.tight(400, 20000));
        Due.refused("gaps alone are 15", x, -4, () -> x.tight(14, 20000));
        due("tight(15, 1)", x.tight(15, 1), 1);
        due("table", x.table(1, 1, 3), 1);
        put(x, 0, 0, 0, 5, 5);
        due("one column: one way", x.tight(10, 1), 2);
        widths("all of it", x, 10);
    }

    private static void promise22Tries() {
        TableSetter x = threeOfFour();
        due("0 before", x.tries(), 0);
        due("bad", x.tight(15, 0), -1);
        due("state", x.tight(9, 5), -4);
        due("0 still", x.tries(), 0);
        due("set", x.set(20), 5);
        due("set has none", x.tries(), 0);
        due("tight(15, 20000)", x.tight(15, 20000), 5);
        due("5 on 3 columns: 7 by 2", x.tries(), 21);
        due("spent", x.tight(30, 3), -6);
        due("n", x.tries(), 3);
        due("state", x.tight(9, 5), -4);
        due("bad", x.tight(9, 50000), -1);
        due("n still", x.tries(), 3);
        due("tight(30, 231)", x.tight(30, 231), 3);
        due("22 by 2", x.tries(), 231);
        due("table", x.table(1, 6, 0), 6);
        due("the latest stays", x.tries(), 231);
        due("tight(12, 20000)", x.tight(12, 20000), 1);
        due("17 by 5", x.tries(), 6188);
        due("tight(400, 20000)", x.tight(400, 20000), -6);
        due("n", x.tries(), 20000);
    }

    private static void promise23Width() {
        TableSetter x = of(1, 2, 1);
        widths("at first", x, 0, 0);
        put(x, 0, 0, 0, 7);
        widths("cells do not change them", x, 0, 0);
        due("set(12)", x.set(12), 1);
        widths("set", x, 9, 2);
        due("word", x.word(0, 0, 20), 7);
        widths("letters do not change them", x, 9, 2);
        due("tight(25, 500)", x.tight(25, 500), 1);
        widths("tight", x, 20, 4);
        Due.refused("width(-1)", x, -1, () -> x.width(-1));
        Due.refused("width(2)", x, -1, () -> x.width(2));
        Due.refused("width(most)", x, -1, () -> x.width(MOST_INT));
    }

    private static void promise24Height() {
        TableSetter x = of(4, 2, 2);
        heights("1 at first", x, 1, 1, 1, 1);
        put(x, 0, 0, 0, 5, 5, 5);
        put(x, 0, 0, 1, 3, 3);
        due("set(12)", x.set(12), 6);
        widths("set", x, 7, 3);
        heights("the most of a row", x, 3, 1, 1, 1);
        lay(x, 0, 1, 0, 2, 2, 12, 12, 1);
        heights("in 7 + 2 + 3: three lines on two rows", x, 3, 1, 2, 1);
        lay(x, 0, 3, 0, 1, 2, 12);
        heights("the gap counts", x, 3, 1, 2, 1);
        due("drop", x.drop(2), 1);
        due("drop", x.drop(0), 1);
        lay(x, 0, 0, 0, 3, 1, 7, 7, 7, 7, 7, 7);
        heights("6 on 2 + 1 + 1: two to the last", x, 2, 1, 3, 1);
        lay(x, 0, 1, 1, 2, 1, 3, 3, 3, 3, 3);
        heights("two rows ahead of three: 5 on 1 + 1", x, 2, 1, 4, 1);
        Due.refused("height(-1)", x, -1, () -> x.height(-1));
        Due.refused("height(4)", x, -1, () -> x.height(4));
        cellsOfOneLength();
    }

    /** Cells on equally many rows see the heights as they were ahead of all of these. */
    private static void cellsOfOneLength() {
        TableSetter x = of(3, 2, 0);
        lay(x, 0, 0, 0, 2, 1, 1, 1, 1, 1, 1);
        lay(x, 0, 1, 1, 2, 1, 1, 1, 1, 1);
        heights("5 on 1 + 1 and 4 on 1 + 1", x, 1, 4, 3);
    }

    private static void promise25Pages() {
        TableSetter x = of(8, 1, 0);
        Due.refused("pages(0)", x, -1, () -> x.pages(0));
        Due.refused("pages(201)", x, -1, () -> x.pages(201));
        Due.refused("pages(least)", x, -1, () -> x.pages(LEAST_INT));
        due("pages(200)", x.pages(200), 1);
        rowsOnPages("all on one", x, 0, 8);
        due("pages(4)", x.pages(4), 2);
        rowsOnPages("two full ones", x, 0, 4, 4);
        due("pages(3)", x.pages(3), 3);
        rowsOnPages("the last page's waste is aside", x, 0, 3, 3, 2);
        due("pages(7)", x.pages(7), 2);
        rowsOnPages("no row alone: 7 and 1 is none", x, 0, 6, 2);
        Due.refused("refused pages leave those that are", x, -1, () -> x.pages(201));
        due("pages(1)", x.pages(1), -9);
        rowsOnPages("none then", x, 0);
        due("page", x.page(0, 0), -9);
        due("pages(5)", x.pages(5), 2);
        due("calls", x.cell(1, 0, 0, 1, 1), 0);
        rowsOnPages("pages stay as they were made", x, 0, 5, 3);
        pagesWithHeads();
        pagesOfFewRows();
        pagesOfLeastWaste();
        pagesWithNotes();
    }

    private static void pagesWithHeads() {
        TableSetter x = of(8, 1, 0);
        put(x, 1, 0, 0, 1, 1);
        put(x, 1, 1, 0);
        due("pages(6)", x.pages(6), 2);
        rowsOnPages("head rows of 2 and 1 on each: 3 are left", x, 2, 3, 3);
        due("the head is on each page", x.page(1, 2), 0);
        due("pages(5)", x.pages(5), 3);
        rowsOnPages("2 are left", x, 2, 2, 2, 2);
        due("pages(4)", x.pages(4), -9);
        due("pages(3), no room at all", x.pages(3), -9);
        due("pages(2), less than the head", x.pages(2), -9);
        lay(x, 0, 3, 0, 3, 1);
        due("pages(6)", x.pages(6), -9);
        due("pages(7)", x.pages(7), 2);
        rowsOnPages("no cell is cut", x, 2, 4, 2);
        due("drop", x.drop(2), 1);
        lay(x, 3, 3, 0, 3, 1);
        due("pages(6) with a loose one", x.pages(6), 2);
        rowsOnPages("a loose one may be cut", x, 2, 3, 3);
    }

    private static void pagesOfFewRows() {
        TableSetter x = of(3, 1, 0);
        lay(x, 1, 0, 0, 3, 1);
        due("without body rows", x.pages(1), 0);
        rowsOnPages("without body rows", x, 3);
        due("table", x.table(2, 1, 0), 2);
        put(x, 1, 0, 0);
        due("a row alone, there is no other one", x.pages(2), 1);
        rowsOnPages("a row alone", x, 1, 1);
        due("too low", x.pages(1), -9);
        due("table", x.table(2, 1, 0), 2);
        put(x, 0, 0, 0, 1, 1);
        due("one of height 1 alone", x.pages(2), -9);
        put(x, 0, 1, 0, 1, 1);
        due("each of height 2 alone", x.pages(2), 2);
        rowsOnPages("each alone", x, 0, 1, 1);
        due("nothing is left", x.page(1, 2), 0);
    }

    private static void pagesOfLeastWaste() {
        TableSetter x = rowsOf(3, 2, 2, 5, 2, 3);
        due("pages(7)", x.pages(7), 3);
        rowsOnPages("0, 0 ahead of the last", x, 0, 3, 2, 1);
        x = rowsOf(4, 3, 4, 4, 4, 2);
        due("pages(10)", x.pages(10), 3);
        rowsOnPages("7, 8: 9 + 4 is less than 7, 4: 9 + 36", x, 0, 2, 2, 2);
        x = rowsOf(2, 2, 5, 2, 2, 5, 2);
        due("pages(9)", x.pages(9), 3);
        rowsOnPages("9, 9, 2", x, 0, 3, 3, 1);
        x = rowsOf(3, 3, 2, 4, 3, 3, 3);
        due("pages(9)", x.pages(9), 3);
        rowsOnPages("8, 7: 1 + 4; 6, 9: 9 + 0; 8, 4 + 3 + ..", x, 0, 3, 2, 2);
        x = rowsOf(2, 2, 2, 2, 2, 2, 2, 2, 2);
        due("pages(9)", x.pages(9), 3);
        rowsOnPages("full ones first", x, 0, 4, 4, 1);
        x = rowsOf(2, 1, 1, 2, 2, 2);
        due("pages(5)", x.pages(5), 3);
        rowsOnPages("4, 4: 1 + 1 is less than 3, 5: 4 + 0", x, 0, 3, 2, 1);
        x = rowsOf(5, 2, 3, 5);
        due("pages(7)", x.pages(7), 3);
        rowsOnPages("2, 2 is less than 0, 4 in squares alone", x, 0, 1, 2, 1);
        x = rowsOf(3, 2, 3, 5);
        due("pages(7)", x.pages(7), 3);
        rowsOnPages("2, 4 and 4, 2 are alike: most rows first", x, 0, 2, 1, 1);
        x = rowsOf(2, 2, 2, 2);
        due("pages(7)", x.pages(7), 2);
        rowsOnPages("1 ahead of the last, whatever that has", x, 0, 3, 1);
        x = rowsOf(7, 5, 5, 7, 3, 3, 8, 2);
        due("pages(12)", x.pages(12), 4);
        rowsOnPages("0, 0, 6: 36; 5, 2, 2, 1: 34 has more pages", x, 0, 2, 2, 2, 2);
    }

    private static void pagesWithNotes() {
        TableSetter x = of(7, 2, 0);
        put(x, 1, 0, 0);
        put(x, 0, 1, 0);
        put(x, 0, 3, 1);
        put(x, 0, 3, 0);
        put(x, 0, 5, 0);
        due("note 4 has 2 lines", x.note(4, 2), 1);
        due("a head calls 0", x.calls(0, 1), 0);
        due("the row 3 calls 4, 5", x.calls(2, 16 + 32), 0);
        due("the row 5 calls 0, 4, 9", x.calls(4, 1 + 16 + 512), 0);
        due("pages(6)", x.pages(6), 3);
        rowsOnPages("1 + 2 + 1, 1 + 2 + 3, 1 + 2 + 1", x, 1, 2, 2, 2);
        int[][] want = {{2, 1}, {0, 48}, {2, 512}};
        for (int p = 0; p < 3; p++) {
            due("EMPTY of page " + p, x.page(p, 2), want[p][0]);
            due("NOTES of page " + p, x.page(p, 3), want[p][1]);
        }
        due("all notes fit", x.pages(12), 1);
        due("all notes are on it", x.page(0, 3), 1 + 16 + 32 + 512);
        due("all but one line", x.pages(11), 2);
        due("the row 3 goes", x.drop(2), 1);
        due("note 4 is now at home on row 5", x.pages(6), 2);
        due("its bits", x.page(1, 3), 16 + 512);
    }

    private static void promise26Page() {
        TableSetter x = of(8, 1, 0);
        due("none such", x.page(0, 0), -9);
        put(x, 1, 0, 0, 1, 1);
        lay(x, 3, 5, 0, 2, 1);
        put(x, 0, 3, 0);
        due("note 0", x.note(0, 2), 1);
        due("calls", x.calls(1, 3), 0);
        due("calls", x.calls(2, 1), 0);
        due("calls", x.calls(0, 4), 0);
        due("pages(9)", x.pages(9), 2);
        int[][] want = {{1, 4, 0, 5}, {5, 3, 3, 2}};
        for (int p = 0; p < 2; p++) {
            for (int what = 0; what <= 3; what++) {
                due("page(" + p + ", " + what + ")", x.page(p, what), want[p][what]);
            }
        }
        for (int p : new int[] {-1, 2, 16, MOST_INT, LEAST_INT}) {
            due("page(" + p + ", 0)", x.page(p, 0), -9);
            Due.refused("page(" + p + ", 4)", x, -1, () -> x.page(p, 4));
        }
        Due.refused("page(0, -1)", x, -1, () -> x.page(0, -1));
        Due.refused("page(0, most)", x, -1, () -> x.page(0, MOST_INT));
        due("what was made stays", x.drop(0), 1);
        due("what was made stays", x.note(0, 6), 2);
        due("page(0, 0)", x.page(0, 0), 1);
        due("page(0, 2)", x.page(0, 2), 0);
    }

    private static void promise27PageOf() {
        TableSetter x = of(8, 1, 0);
        due("none", x.pageOf(0), -9);
        put(x, 1, 0, 0);
        put(x, 1, 1, 0);
        due("pages(5)", x.pages(5), 2);
        int[] want = {0, 0, 0, 0, 0, 1, 1, 1};
        for (int row = 0; row < 8; row++) {
            due("pageOf(" + row + ")", x.pageOf(row), want[row]);
        }
        Due.refused("pageOf(-1)", x, -1, () -> x.pageOf(-1));
        Due.refused("pageOf(8)", x, -1, () -> x.pageOf(8));
        Due.refused("pageOf(most)", x, -1, () -> x.pageOf(MOST_INT));
        due("a head goes", x.drop(1), 1);
        due("the latest pages stay", x.pageOf(1), 0);
        due("a head comes", x.cell(1, 1, 0, 7, 1), 2);
        due("the latest pages stay", x.pageOf(7), 1);
        due("pages(8): no body rows", x.pages(8), 0);
        due("none", x.pageOf(0), -9);
        due("drop", x.drop(2), 1);
        due("pages(2): one of height 1 alone", x.pages(2), -9);
        due("none", x.pageOf(3), -9);
    }

    private static void promise28MayBreak() {
        TableSetter x = of(9, 2, 0);
        put(x, 1, 0, 0);
        put(x, 1, 1, 1);
        int[] want = {0, 0, 0, 1, 1, 1, 1, 1, 1};
        mayBreaks("after two head rows", x, want);
        lay(x, 0, 3, 0, 2, 1);
        lay(x, 3, 5, 0, 3, 1);
        mayBreaks("a cell on 3, 4", x, 0, 0, 0, 1, 0, 1, 1, 1, 1);
        lay(x, 2, 6, 1, 2, 1);
        mayBreaks("a fixed one on 6, 7 beside the loose one", x, 0, 0, 0, 1, 0, 1, 1, 0, 1);
        lay(x, 1, 4, 1, 2, 1);
        mayBreaks("a head on 4, 5", x, 0, 0, 0, 1, 0, 0, 1, 0, 1);
        due("drop", x.drop(2), 1);
        due("drop", x.drop(0), 1);
        mayBreaks("no head on row 0", x, 0, 1, 1, 1, 1, 0, 1, 0, 1);
        Due.refused("mayBreak(-1)", x, -1, () -> x.mayBreak(-1));
        Due.refused("mayBreak(9)", x, -1, () -> x.mayBreak(9));
        Due.refused("mayBreak(least)", x, -1, () -> x.mayBreak(LEAST_INT));
    }

    private static void promise29Count() {
        TableSetter x = of(6, 3, 1);
        lay(x, 1, 0, 2, 2, 1, 3, 3);
        put(x, 1, 3, 0);
        put(x, 0, 2, 0, 2, 2);
        due("drop", x.drop(1), 1);
        due("set(14)", x.set(14), 6);
        due("pages(5)", x.pages(5), 2);
        due("set(7)", x.set(7), 7);
        int[] want = {6, 3, 3, 2, 2, 2, 7};
        for (int what = 0; what < want.length; what++) {
            due("count(" + what + ")", x.count(what), want[what]);
        }
        for (int what : new int[] {-1, 7, MOST_INT, LEAST_INT}) {
            Due.refused("count(" + what + ")", x, -1, () -> x.count(what));
        }
        due("a head on row 3 alone is none", x.cell(1, 3, 0, 1, 1), 3);
        due("count(4)", x.count(4), 2);
        due("a head on row 2 joins them", x.cell(1, 2, 1, 1, 1), 4);
        due("count(4)", x.count(4), 4);
    }

    private static void promise30And31Findings() {
        TableSetter x = of(2, 2, 0);
        due("0 before any", x.finding(), 0);
        put(x, 0, 0, 0);
        put(x, 0, 1, 1);
        due("bad is no finding", x.drop(7), -1);
        due("0 still", x.finding(), 0);
        Due.found("beyond", x, BEYOND, () -> x.cell(0, 1, 0, 2, 1));
        Due.found("unlike", x, UNLIKE, () -> x.fix(0, 1));
        Due.found("nought", x, NOUGHT, () -> x.mean(0));
        Due.found("size", x, SIZE, () -> x.words(0, -5));
        Due.found("clash", x, CLASH, () -> x.cell(0, 0, 0, 1, 1));
        due("drop", x.drop(1), 1);
        Due.found("nothing", x, NOTHING, () -> x.drop(1));
        Due.found("nothing", x, NOTHING, () -> x.mean(1));
        int[] want = {2, 1, 1, 1, 1, 1};
        for (int f = 1; f <= 6; f++) {
            due("findings(" + f + ")", x.findings(f), want[f - 1]);
        }
        for (int f : new int[] {0, 7, -1, MOST_INT, LEAST_INT}) {
            Due.refused("findings(" + f + ")", x, -1, () -> x.findings(f));
        }
        due("what is answered well", x.words(0, 1), 1);
        due("leaves the latest", x.finding(), NOTHING);
        due("table", x.table(1, 1, 0), 1);
        due("leaves the latest, too", x.finding(), NOTHING);
        due("and how often", x.findings(NOTHING), 2);
    }

    private static void promise32Digest() {
        TableSetter x = of(3, 2, 1);
        put(x, 1, 0, 0, 4, 2);
        lay(x, 2, 1, 0, 1, 2);
        put(x, 0, 2, 1, 7);
        due("weight", x.weight(1, 6), 1);
        due("note", x.note(9, 5), 1);
        due("fix", x.fix(1, 8), 1);
        due("calls", x.calls(1, 512), 0);
        due("drop", x.drop(2), 1);
        due("set(12)", x.set(12), 3);
        due("before pages", x.digest(), mix(3, 2, 1, 1, 6, x.width(0), x.width(1), 1, 1, 1, 1, 1, 1, 1, 1, 1, 5,
            1, 0, 0, 1, 1, 2, 0, 4, 2, 2, 1, 0, 1, 2, 0, 512, 8, -1, 0));
        due("pages(9)", x.pages(9), 1);
        due("with a page", x.digest(), mix(3, 2, 1, 1, 6, x.width(0), x.width(1), 1, 1, 1, 1, 1, 1, 1, 1, 1, 5,
            1, 0, 0, 1, 1, 2, 0, 4, 2, 2, 1, 0, 1, 2, 0, 512, 8, -1, 1, 1, 2, 1, 512));
        long digest = x.digest();
        due("the same again", x.digest(), digest);
        due("words", x.words(0, 1), 1);
        due("another one", x.digest() == digest ? 1 : 0, 0);
    }

    public static void main(String[] args) {
        constants();
        promise1NewObject();
        promise2Table();
        promise3Weight();
        promise4Note();
        promise5Cell();
        promise6Clash();
        promise7Drop();
        promise8Told();
        promise9Is();
        promise10On();
        promise11Words();
        promise12Word();
        promise13Copy();
        promise14Mean();
        promise15Calls();
        promise16Fix();
        promise17Lines();
        promise18Want();
        promise19Natural();
        promise20Set();
        promise21Tight();
        promise22Tries();
        promise23Width();
        promise24Height();
        promise25Pages();
        promise26Page();
        promise27PageOf();
        promise28MayBreak();
        promise29Count();
        promise30And31Findings();
        promise32Digest();
        Due.end();
    }
}
