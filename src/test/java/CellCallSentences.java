/** Promises 1 to 18: the table and its cells, call by call. */
final class CellCallSentences extends Tables {
    private CellCallSentences() {
    }

    static void tell(Sentences s) {
        s.in("Promise 1");
        s.of("THE TABLE has a ROW and a COLUMN, no CELLS; GAP 0.", CellCallSentences::newObject);
        s.in("Promise 2");
        s.of("THE TABLE has r ROWS, c COLUMNS, no CELLS (none ever)", CellCallSentences::tableBegins);
        s.of("GAP g, WEIGHTS 1", CellCallSentences::tableGapAndWeights);
        s.of("WIDTHS are 0", CellCallSentences::tableWidths);
        s.of("no PAGES, no CLASH", CellCallSentences::tablePagesAndClash);
        s.of("NOTES stay", CellCallSentences::tableNotes);
        s.of("r times c.", CellCallSentences::tableAnswers);
        s.of("BAD.", () -> Refusals.of("table", BAD));
        s.in("Promise 3");
        s.of("The WEIGHT of a COLUMN is w: what it was.", CellCallSentences::weightIsTaken);
        s.of("BAD.", () -> Refusals.of("weight", BAD));
        s.in("Promise 4");
        s.of("A NOTE has h LINES: what it had.", CellCallSentences::noteIsTaken);
        s.of("BAD.", () -> Refusals.of("note", BAD));
        s.in("Promise 5");
        s.of("A CELL of a KIND on ROWS from one on, so many, and COLUMNS: its number.", CellCallSentences::cellIsMade);
        s.of("BAD: the KIND, a ROW or a COLUMN that there is not, rows, cols below 1", CellCallSentences::cellBad);
        s.of("FULL", () -> Refusals.of("cell", FULL));
        s.of("BEYOND: more than there are", CellCallSentences::cellBeyond);
        s.of("CLASH (clash() tells).", CellCallSentences::cellClash);
        s.in("Promise 6");
        s.of("The least CELL with which the latest cell() that was CLASH clashed", CellCallSentences::clashTells);
        s.of("NONE: none was.", CellCallSentences::clashNone);
        s.in("Promise 7");
        s.of("A CELL is taken away: 1.", CellCallSentences::dropTakes);
        s.of("BAD; NOTHING.", CellCallSentences::dropRefused);
        s.in("Promise 8");
        s.of("Of a CELL: 0 its KIND, 1 its ROW, 2 its COLUMN, 3 how many ROWS, 4 COLUMNS, 5 how many PIECES, 6 what it CALLS.",
            CellCallSentences::toldFacts);
        s.of("BAD: also what; NOTHING.", () -> refused("told"));
        s.in("Promise 9");
        s.of("Whether a CELL IS of a KIND: 1, 0.", CellCallSentences::isOfKind);
        s.of("BAD; NOTHING.", () -> refused("is"));
        s.in("Promise 10");
        s.of("The CELL on a place; NONE.", CellCallSentences::onPlace);
        s.of("BAD.", () -> Refusals.of("on", BAD));
        s.in("Promise 11");
        s.of("A CELL has n PIECES of one letter each: n.", CellCallSentences::wordsOfOne);
        s.of("BAD: also n above 12; NOTHING; SIZE.", CellCallSentences::wordsRefused);
        s.in("Promise 12");
        s.of("PIECE i of a CELL has n letters (1 .. 20): what it had.", CellCallSentences::wordIsTaken);
        s.of("BAD; NOTHING; BEYOND.", CellCallSentences::wordRefused);
        s.in("Promise 13");
        s.of("n PIECES of a CELL, from i on, come to those of another one", CellCallSentences::copyToAnother);
        s.of("(perhaps itself) from j on, as if taken ahead: 1.", CellCallSentences::copyToItself);
        s.of("BAD; NOTHING: either", () -> refused("copy"));
        s.of("BEYOND: not so many there (a place, n below 0, too).", CellCallSentences::copyBeyond);
        s.in("Promise 14");
        s.of("Letters of all PIECES of a CELL by how many there are, cut.", CellCallSentences::meanIsCut);
        s.of("BAD; NOTHING; NOUGHT.", CellCallSentences::meanRefused);
        s.in("Promise 15");
        s.of("A CELL CALLS these NOTES (bits): what it did.", CellCallSentences::callsAreTaken);
        s.of("BAD; NOTHING.", () -> refused("calls"));
        s.in("Promise 16");
        s.of("The WIDTH of a FIXED CELL is w: what it was.", CellCallSentences::fixIsTaken);
        s.of("BAD; NOTHING; UNLIKE.", CellCallSentences::fixRefused);
        s.in("Promise 17");
        s.of("How many LINES a CELL has in a width (1 .. 400).", CellCallSentences::linesInWidths);
        s.of("BAD; NOTHING.", () -> refused("lines"));
        s.in("Promise 18");
        s.of("The WANT (0, 1) of a CELL.", CellCallSentences::wantOfCell);
        s.of("BAD; NOTHING.", () -> refused("want"));
    }

    private static void refused(String call) {
        Refusals.of(call, BAD);
        Refusals.ofFinding(call, NOTHING);
    }

    private static void newObject() {
        TableSetter x = new TableSetter();
        int[] counts = {1, 1, 0, 0, 0, 0, 1};
        for (int what = 0; what < counts.length; what++) {
            due("new: count(" + what + ")", x.count(what), counts[what]);
        }
        due("no cell", x.on(0, 0), -9);
        due("row 1", x.on(1, 0), -1);
        due("column 1", x.on(0, 1), -1);
        due("cell 0 is none", x.told(0, 0), -1);
        due("digest: a row, a column, gap 0, weight 1, width 0, ten notes of 1, no pages", x.digest(),
            mix(1, 1, 0, 1, 0, 1, 1, 1, 1, 1, 1, 1, 1, 1, 1, 0));
        due("a cell", x.cell(3, 0, 0, 1, 1), 0);
    }

    private static void tableBegins() {
        TableSetter x = rich();
        due("table", x.table(2, 4, 0), 8);
        int[] counts = {2, 4, 0, 0, 0, 0, 2};
        for (int what = 0; what < counts.length; what++) {
            due("count(" + what + ")", x.count(what), counts[what]);
        }
        due("no cell 0", x.told(0, 0), -1);
        due("no cell on row 0", x.on(0, 0), -9);
        naturals("nothing is wanted", x, 1, 0, 0, 0, 0);
        for (int cell = 0; cell < 4; cell++) {
            due("the numbers begin again", x.cell(2, 1, cell, 1, 1), cell);
            due("no pieces of an earlier cell", x.told(cell, 5), 0);
            due("nor its notes", x.told(cell, 6), 0);
            due("nor its width", x.fix(cell, 5), 1);
            due("nor its lines", x.lines(cell, 1), 0);
        }
        due("nor is one gone", x.count(3), 4);
        due("no cell 4", x.told(4, 0), -1);
        due("it is where one was that is gone", x.cell(0, 0, 0, 1, 1), 4);
        due("it is there", x.on(0, 0), 4);
        x = rich();
        due("the same size", x.table(6, 3, 1), 18);
        due("none ever", x.count(2), 0);
    }

    private static void tableGapAndWeights() {
        TableSetter x = rich();
        due("table", x.table(1, 3, 3), 3);
        due("less than two gaps", x.set(5), -4);
        due("two gaps", x.set(6), 1);
        due("table", x.table(1, 3, 0), 3);
        due("no gaps", x.set(0), 1);
        for (int column = 0; column < 3; column++) {
            due("weight", x.weight(column, 9), 1);
        }
        due("table", x.table(1, 6, 0), 6);
        for (int column = 0; column < 6; column++) {
            due("weight 1 again", x.weight(column, 1), 1);
        }
    }

    private static void tableWidths() {
        TableSetter x = of(1, 6, 0);
        due("set", x.set(60), 1);
        due("table", x.table(1, 6, 0), 6);
        widths("0 again", x, 0, 0, 0, 0, 0, 0);
        due("fewer columns", x.table(1, 1, 0), 1);
        due("set", x.set(9), 1);
        due("more columns", x.table(1, 6, 0), 6);
        widths("0 again", x, 0, 0, 0, 0, 0, 0);
    }

    private static void tablePagesAndClash() {
        TableSetter x = rich();
        due("two pages", x.count(5), 2);
        due("a clash", x.clash(), 1);
        due("table", x.table(6, 3, 1), 18);
        due("no pages", x.count(5), 0);
        due("no page", x.page(0, 0), -9);
        due("on none", x.pageOf(0), -9);
        due("no clash", x.clash(), -9);
        due("findings stay", x.finding(), NOUGHT);
        due("and how often", x.findings(CLASH), 2);
        due("tries stay", x.tries(), 2);
    }

    private static void tableNotes() {
        TableSetter x = of(1, 1, 0);
        for (int k = 0; k <= 9; k++) {
            due("note", x.note(k, 1 + k % 6), 1);
        }
        due("table", x.table(16, 6, 3), 96);
        due("table", x.table(1, 1, 0), 1);
        for (int k = 0; k <= 9; k++) {
            due("as it was", x.note(k, 1), 1 + k % 6);
        }
    }

    private static void tableAnswers() {
        TableSetter x = new TableSetter();
        for (int r : new int[] {1, 2, 15, 16}) {
            for (int c = 1; c <= 6; c++) {
                due("table(" + r + ", " + c + ", 3)", x.table(r, c, 3), r * c);
            }
        }
    }

    private static void weightIsTaken() {
        TableSetter x = of(1, 6, 0);
        for (int w = 2; w <= 9; w++) {
            due("column 0", x.weight(0, w), w - 1);
            due("column 5", x.weight(5, w), w - 1);
        }
        due("column 0", x.weight(0, 1), 9);
        due("column 5 is another one", x.weight(5, 9), 9);
        due("column 1 is 1 still", x.weight(1, 1), 1);
    }

    private static void noteIsTaken() {
        TableSetter x = new TableSetter();
        for (int h = 2; h <= 6; h++) {
            due("note 0", x.note(0, h), h - 1);
            due("note 9", x.note(9, h), h - 1);
        }
        due("note 0", x.note(0, 1), 6);
        due("note 9 is another one", x.note(9, 6), 6);
        due("note 1 is 1 still", x.note(1, 1), 1);
    }

    private static void cellIsMade() {
        TableSetter x = of(16, 6, 0);
        int[][] made = {{0, 0, 0, 1, 1}, {1, 15, 5, 1, 1}, {2, 0, 1, 1, 5}, {3, 1, 0, 15, 1}, {0, 1, 1, 1, 1}};
        for (int i = 0; i < made.length; i++) {
            int[] m = made[i];
            due("cell " + i, x.cell(m[0], m[1], m[2], m[3], m[4]), i);
            for (int what = 0; what < 5; what++) {
                due("told(" + i + ", " + what + ")", x.told(i, what), m[what]);
            }
            due("no pieces", x.told(i, 5), 0);
            due("no notes", x.told(i, 6), 0);
        }
        x = of(16, 6, 0);
        due("all places", x.cell(0, 0, 0, 16, 6), 0);
        due("a refused one", x.cell(0, 0, 0, 1, 1), -3);
        due("drop", x.drop(0), 1);
        due("has no number; one that is gone keeps its own", x.cell(0, 0, 0, 16, 6), 1);
    }

    private static void cellBad() {
        Refusals.of("cell", BAD);
        TableSetter x = of(2, 2, 0);
        due("the last kind, row and column", x.cell(3, 1, 1, 1, 1), 0);
        due("the first ones", x.cell(0, 0, 0, 1, 1), 1);
    }

    private static void cellBeyond() {
        Refusals.ofFinding("cell", BEYOND);
        TableSetter x = of(6, 3, 0);
        due("as many rows as there are", x.cell(0, 2, 0, 4, 1), 0);
        due("as many columns as there are", x.cell(0, 0, 1, 1, 2), 1);
        due("one more row", x.cell(0, 2, 1, 5, 1), -3);
        due("one more column", x.cell(0, 2, 1, 1, 3), -3);
        due("none was a clash", x.clash(), -9);
    }

    private static void cellClash() {
        Refusals.ofFinding("cell", CLASH);
        TableSetter x = of(3, 3, 0);
        due("a cell", x.cell(0, 1, 1, 1, 1), 0);
        due("just above it", x.cell(0, 0, 0, 1, 3), 1);
        due("over it", x.cell(0, 1, 0, 2, 2), -3);
        due("clash()", x.clash(), 0);
    }

    private static void clashTells() {
        TableSetter x = of(3, 3, 0);
        put(x, 0, 2, 2);
        put(x, 0, 0, 0);
        put(x, 0, 1, 1);
        due("over 1 and 2", x.cell(0, 0, 0, 2, 2), -3);
        due("the least", x.clash(), 1);
        due("over all", x.cell(0, 0, 0, 3, 3), -3);
        due("the least", x.clash(), 0);
        due("over 2", x.cell(0, 1, 0, 1, 3), -3);
        due("the latest", x.clash(), 2);
        due("bad", x.cell(0, 1, 0, 0, 3), -1);
        due("beyond", x.cell(0, 0, 0, 4, 3), -3);
        due("a cell that is none", x.cell(0, 0, 2, 1, 1), 3);
        due("the latest that was a clash", x.clash(), 2);
        due("drop", x.drop(0), 1);
        due("over those that are there", x.cell(0, 0, 0, 3, 3), -3);
        due("the least that is there", x.clash(), 1);
        x = full();
        due("full", x.cell(0, 0, 0, 1, 1), -2);
        due("is no clash", x.clash(), -9);
    }

    private static void clashNone() {
        TableSetter x = new TableSetter();
        due("a new object", x.clash(), -9);
        due("a cell", x.cell(0, 0, 0, 1, 1), 0);
        due("beyond", x.cell(0, 0, 0, 2, 1), -3);
        due("none was", x.clash(), -9);
        due("a clash", x.cell(0, 0, 0, 1, 1), -3);
        due("cell 0", x.clash(), 0);
        due("table", x.table(1, 1, 0), 1);
        due("none was", x.clash(), -9);
    }

    private static void dropTakes() {
        TableSetter x = of(2, 2, 0);
        put(x, 1, 0, 0, 7, 7);
        put(x, 0, 1, 1, 3);
        due("calls", x.calls(0, 1), 0);
        due("set", x.set(10), 3);
        due("cell 0", x.drop(0), 1);
        due("its lines", x.height(0), 1);
        due("cells ever", x.count(2), 2);
        due("cells that are there", x.count(3), 1);
        due("its place", x.on(0, 0), -9);
        due("no head row", x.count(4), 0);
        naturals("its want", x, 0, 0, 3);
        widths("they stay", x, 7, 3);
        due("pages", x.pages(2), 1);
        onPages("its note", x, 3, 0);
        due("the other one", x.told(1, 1), 1);
        due("the last one", x.drop(1), 1);
        due("none is there", x.count(3), 0);
        due("heights are 1", x.count(6), 2);
        x = full();
        due("number 39", x.drop(39), 1);
        due("39 are there", x.count(3), 39);
    }

    private static void dropRefused() {
        refused("drop");
        TableSetter x = rich();
        due("the first", x.drop(0), 1);
        due("the last", x.drop(5), 1);
        due("gone", x.drop(5), -3);
    }

    private static void toldFacts() {
        TableSetter x = of(16, 6, 0);
        lay(x, 3, 15, 5, 1, 1);
        lay(x, 0, 0, 0, 15, 6, alike(12, 2));
        due("calls", x.calls(1, 1023), 0);
        int[][] want = {{3, 15, 5, 1, 1, 0, 0}, {0, 0, 0, 15, 6, 12, 1023}};
        for (int cell = 0; cell < want.length; cell++) {
            for (int what = 0; what <= 6; what++) {
                due("told(" + cell + ", " + what + ")", x.told(cell, what), want[cell][what]);
            }
        }
    }

    private static void isOfKind() {
        TableSetter x = of(4, 1, 0);
        for (int kind = 0; kind <= 3; kind++) {
            put(x, kind, kind, 0);
            for (int other = 0; other <= 3; other++) {
                due("is(" + kind + ", " + other + ")", x.is(kind, other), other == 0 || other == kind ? 1 : 0);
            }
        }
    }

    private static void onPlace() {
        TableSetter x = of(16, 6, 0);
        due("no cells", x.on(0, 0), -9);
        lay(x, 0, 0, 0, 2, 3);
        put(x, 0, 15, 5);
        int[][] want = {{0, 0, 0}, {1, 2, 0}, {0, 3, -9}, {2, 0, -9}, {2, 3, -9}, {15, 5, 1}, {15, 4, -9}, {14, 5, -9}};
        for (int[] w : want) {
            due("on(" + w[0] + ", " + w[1] + ")", x.on(w[0], w[1]), w[2]);
        }
        due("drop", x.drop(1), 1);
        due("gone", x.on(15, 5), -9);
        due("again", x.cell(0, 15, 5, 1, 1), 2);
        due("the one that is there", x.on(15, 5), 2);
    }

    private static void wordsOfOne() {
        TableSetter x = text(20, 20, 20);
        due("words(0, 12)", x.words(0, 12), 12);
        pieces("one letter each, also those that had more", x, 0, alike(12, 1));
        due("words(0, 0)", x.words(0, 0), 0);
        pieces("none", x, 0);
        due("words(0, 1)", x.words(0, 1), 1);
        pieces("one", x, 0, 1);
        due("word", x.word(0, 0, 9), 1);
        due("as many again", x.words(0, 1), 1);
        pieces("of one letter", x, 0, 1);
    }

    private static void wordsRefused() {
        refused("words");
        Refusals.ofFinding("words", SIZE);
        due("12 is not above 12", rich().words(1, 12), 12);
        due("0 is not fewer than none", rich().words(1, 0), 0);
    }

    private static void wordIsTaken() {
        TableSetter x = text(alike(12, 1));
        due("the first", x.word(0, 0, 20), 1);
        due("the last", x.word(0, 11, 2), 1);
        due("the first again", x.word(0, 0, 1), 20);
        due("the last again", x.word(0, 11, 20), 2);
        pieces("all", x, 0, 1, 1, 1, 1, 1, 1, 1, 1, 1, 1, 1, 20);
        due("lines are those of now", x.lines(0, 20), 3);
        due("word", x.word(0, 11, 1), 20);
        due("lines are those of now", x.lines(0, 20), 2);
    }

    private static void wordRefused() {
        refused("word");
        Refusals.ofFinding("word", BEYOND);
        TableSetter x = rich();
        due("the last piece", x.word(1, 2, 20), 1);
        due("one behind it", x.word(1, 3, 20), -3);
        due("words", x.words(1, 12), 12);
        due("the last of twelve", x.word(1, 11, 20), 1);
        due("words", x.words(1, 2), 2);
        due("it is gone", x.word(1, 2, 20), -3);
    }

    private static void copyToAnother() {
        TableSetter x = of(2, 1, 0);
        put(x, 0, 0, 0, 2, 3, 4, 5);
        put(x, 0, 1, 0, 11, 12, 13);
        due("one: the first to the last", x.copy(0, 0, 1, 2, 1), 1);
        pieces("the other", x, 1, 11, 12, 2);
        due("two: the last to the first", x.copy(0, 2, 1, 0, 2), 1);
        pieces("the other", x, 1, 4, 5, 2);
        due("all of the other", x.copy(1, 0, 0, 1, 3), 1);
        pieces("the first one", x, 0, 2, 4, 5, 2);
        pieces("the other as it was", x, 1, 4, 5, 2);
        due("lines before: 4, 5, 2", x.lines(1, 5), 3);
        due("copy", x.copy(0, 0, 1, 1, 1), 1);
        due("lines are those of now: 4, 2 2", x.lines(1, 5), 2);
        pieces("the other", x, 1, 4, 2, 2);
        due("none", x.copy(0, 0, 1, 0, 0), 1);
        pieces("the other as it was", x, 1, 4, 2, 2);
        x = of(2, 1, 0);
        put(x, 0, 0, 0, 1, 2, 3, 4, 5, 6, 7, 8, 9, 10, 11, 12);
        put(x, 0, 1, 0, alike(12, 20));
        due("all twelve", x.copy(0, 0, 1, 0, 12), 1);
        pieces("the other", x, 1, 1, 2, 3, 4, 5, 6, 7, 8, 9, 10, 11, 12);
    }

    private static void copyToItself() {
        TableSetter x = text(2, 3, 4, 5);
        due("upward", x.copy(0, 0, 0, 1, 3), 1);
        pieces("as if taken ahead", x, 0, 2, 2, 3, 4);
        due("downward", x.copy(0, 1, 0, 0, 3), 1);
        pieces("as if taken ahead", x, 0, 2, 3, 4, 4);
        due("all on its own place", x.copy(0, 0, 0, 0, 4), 1);
        pieces("as it was", x, 0, 2, 3, 4, 4);
        due("side by side", x.copy(0, 0, 0, 2, 2), 1);
        pieces("no two on one place", x, 0, 2, 3, 2, 3);
        x = text(1, 2, 3, 4, 5, 6, 7, 8, 9, 10, 11, 12);
        due("eleven upward", x.copy(0, 0, 0, 1, 11), 1);
        pieces("as if taken ahead", x, 0, 1, 1, 2, 3, 4, 5, 6, 7, 8, 9, 10, 11);
    }

    private static void copyBeyond() {
        Refusals.ofFinding("copy", BEYOND);
        TableSetter x = rich();
        due("so many there are", x.copy(3, 2, 1, 0, 3), 1);
        due("one more than there are", x.copy(3, 2, 1, 0, 4), -3);
        due("one more than there are, from one less on", x.copy(3, 3, 1, 0, 3), -3);
        due("none, right behind the last of both", x.copy(3, 5, 1, 3, 0), 1);
        due("none of none", x.copy(5, 0, 5, 0, 0), 1);
    }

    private static void meanIsCut() {
        TableSetter x = text(5, 2, 9);
        due("16 by 3", x.mean(0), 5);
        due("word", x.word(0, 0, 6), 5);
        due("17 by 3", x.mean(0), 5);
        due("word", x.word(0, 0, 7), 6);
        due("18 by 3", x.mean(0), 6);
        due("1 by 1", text(1).mean(0), 1);
        due("240 by 12", text(alike(12, 20)).mean(0), 20);
        due("3 by 2", text(1, 2).mean(0), 1);
    }

    private static void meanRefused() {
        refused("mean");
        Refusals.ofFinding("mean", NOUGHT);
        TableSetter x = text(4);
        due("one piece", x.mean(0), 4);
        due("words", x.words(0, 0), 0);
        due("none", x.mean(0), -3);
    }

    private static void callsAreTaken() {
        TableSetter x = text(1);
        due("none at first", x.calls(0, 1023), 0);
        due("all", x.calls(0, 512), 1023);
        due("the last", x.calls(0, 1), 512);
        due("the first", x.calls(0, 0), 1);
        due("none", x.calls(0, 6), 0);
        due("told", x.told(0, 6), 6);
    }

    private static void fixIsTaken() {
        TableSetter x = of(2, 1, 0);
        put(x, 2, 0, 0);
        put(x, 2, 1, 0);
        due("1 at first", x.fix(0, 60), 1);
        due("60", x.fix(0, 2), 60);
        due("2", x.fix(0, 1), 2);
        due("1", x.fix(0, 59), 1);
        due("the other one", x.fix(1, 3), 1);
        due("59", x.want(0, 0), 59);
    }

    private static void fixRefused() {
        refused("fix");
        Refusals.ofFinding("fix", UNLIKE);
        due("60 is one", rich().fix(2, 60), 7);
        due("1 is one", rich().fix(2, 1), 7);
    }

    private static void linesInWidths() {
        TableSetter x = text(5, 2, 9);
        int[][] want = {{1, 16}, {4, 5}, {8, 3}, {9, 2}, {17, 2}, {18, 1}, {251, 1}, {252, 1}, {399, 1}, {400, 1}};
        for (int[] w : want) {
            due("lines(0, " + w[0] + ")", x.lines(0, w[0]), w[1]);
        }
        due("asked again", x.lines(0, 8), 3);
        due("words", x.words(0, 2), 2);
        due("others now", x.lines(0, 8), 1);
        x = text(alike(12, 20));
        due("the longest in 1", x.lines(0, 1), 240);
        due("the longest in 400", x.lines(0, 400), 1);
        due("none in 1", text().lines(0, 1), 0);
    }

    private static void wantOfCell() {
        TableSetter x = text(5, 2, 9);
        due("0", x.want(0, 0), 9);
        due("1", x.want(0, 1), 18);
        due("none", text().want(0, 1), 0);
        due("the most", text(alike(12, 20)).want(0, 1), 251);
    }
}
