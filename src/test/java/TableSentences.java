/** Terms 1: the table, its cells and pieces, their lines and wants, and what is shared. */
final class TableSentences extends Tables {
    private TableSentences() {
    }

    static void tell(Sentences s) {
        s.in("Terms");
        s.of("THE TABLE has R ROWS (1 .. 16)", TableSentences::rows);
        s.of("C COLUMNS (1 .. 6)", TableSentences::columns);
        s.of("a GAP g (0 .. 3) between COLUMNS", TableSentences::gap);
        s.of("a WEIGHT for each COLUMN (1 .. 9; 1 at first)", TableSentences::weight);
        s.of("CELLS 0, 1, .. (40 at most ever)", TableSentences::cells);
        s.of("are of a KIND: 0 CELL, 1 HEAD, 2 FIXED, 3 LOOSE (each a CELL, too)", TableSentences::kinds);
        s.of("each lies on some ROWS and COLUMNS side by side", TableSentences::sideBySide);
        s.of("no two on the same place", TableSentences::notTwo);
        s.of("A CELL has 0 to 12 PIECES of text", TableSentences::pieces);
        s.of("of 1 to 20 letters each", TableSentences::letters);
        s.of("CALLS NOTES (bits 0 .. 9)", TableSentences::notes);
        s.of("A FIXED one has a told WIDTH (1 .. 60; 1 at first)", TableSentences::fixed);
        s.of("NOTES 0 .. 9 have 1 .. 6 LINES (1 at first)", TableSentences::noteLines);
        s.of("LINES of a CELL in a width w: its PIECES in order", TableSentences::inOrder);
        s.of("the first one on a new LINE", TableSentences::firstPiece);
        s.of("the next one behind the last with a blank, if that LINE is not longer than w then, else on a new LINE",
            TableSentences::nextPiece);
        s.of("A PIECE of n letters, n above w, begins a new LINE", TableSentences::longPiece);
        s.of("and fills as many of w as it can", TableSentences::filled);
        s.of("the rest (1 to w letters) is a LINE that may go on", TableSentences::rest);
        s.of("No PIECES: no LINES.", TableSentences::noPieces);
        s.of("Any w below 1 counts as 1.", TableSentences::narrow);
        s.aside("WANTS of a CELL:");
        s.of("LEAST (0): its longest PIECE", TableSentences::least);
        s.of("BEST (1): all its PIECES with a blank between two", TableSentences::best);
        s.of("0 without PIECES", TableSentences::wantOfNone);
        s.of("of a FIXED one both: its WIDTH", TableSentences::wantOfFixed);
        s.aside("SHARED by numbers (not all 0):");
        s.of("n times each number by the sum of all, cut", TableSentences::sharedCut);
        s.of("of what is left one each to those where most was cut off", TableSentences::sharedRest);
        s.of("of these the least COLUMN first", TableSentences::sharedEven);
    }

    private static void rows() {
        TableSetter x = of(1, 1, 0);
        due("count(0)", x.count(0), 1);
        due("row 0", x.height(0), 1);
        due("row 1 of one", x.height(1), -1);
        x = of(16, 1, 0);
        due("count(0)", x.count(0), 16);
        due("row 15", x.height(15), 1);
        due("row 16", x.height(16), -1);
        due("a cell on all rows", x.cell(0, 0, 0, 16, 1), 0);
        due("on the last one", x.on(15, 0), 0);
        Twins.bad("no rows", Tables::rich, y -> y.table(0, 1, 0));
        Twins.bad("17 rows", Tables::rich, y -> y.table(17, 1, 0));
    }

    private static void columns() {
        TableSetter x = of(1, 1, 0);
        due("count(1)", x.count(1), 1);
        due("column 0", x.width(0), 0);
        due("column 1 of one", x.width(1), -1);
        x = of(1, 6, 0);
        due("count(1)", x.count(1), 6);
        due("column 5", x.width(5), 0);
        due("column 6", x.width(6), -1);
        due("a cell on all columns", x.cell(0, 0, 0, 1, 6), 0);
        due("on the last one", x.on(0, 5), 0);
        Twins.bad("no columns", Tables::rich, y -> y.table(1, 0, 0));
        Twins.bad("7 columns", Tables::rich, y -> y.table(1, 7, 0));
    }

    private static void gap() {
        TableSetter x = of(1, 2, 0);
        due("no gap", x.set(0), 1);
        x = of(1, 2, 3);
        due("less than one gap of 3", x.set(2), -4);
        due("one gap of 3", x.set(3), 1);
        x = of(1, 6, 3);
        due("less than five gaps of 3", x.set(14), -4);
        due("five gaps of 3", x.set(15), 1);
        x = of(1, 1, 3);
        due("one column: no gap", x.set(0), 1);
        Twins.bad("a gap below 0", Tables::rich, y -> y.table(1, 1, -1));
        Twins.bad("a gap of 4", Tables::rich, y -> y.table(1, 1, 4));
    }

    private static void weight() {
        TableSetter x = of(1, 6, 0);
        for (int column = 0; column < 6; column++) {
            due("1 at first", x.weight(column, 9), 1);
            due("9 is one", x.weight(column, 1), 9);
            due("1 is one", x.weight(column, 2), 1);
        }
        x = of(1, 2, 0);
        lay(x, 0, 0, 0, 1, 2, 10);
        naturals("1 and 1", x, 0, 5, 5);
        due("weight", x.weight(0, 9), 1);
        naturals("9 and 1", x, 0, 9, 1);
        Twins.bad("no weight", Tables::rich, y -> y.weight(0, 0));
        Twins.bad("a weight of 10", Tables::rich, y -> y.weight(0, 10));
    }

    private static void cells() {
        TableSetter x = full();
        due("forty ever", x.count(2), 40);
        due("the last one", x.told(39, 2), 3);
        due("one more", x.cell(0, 15, 5, 1, 1), -2);
        due("drop", x.drop(39), 1);
        due("forty ever, though one is gone", x.cell(0, 15, 5, 1, 1), -2);
        due("thirty-nine there", x.count(3), 39);
        x = of(1, 1, 0);
        for (int i = 0; i < 40; i++) {
            due("a cell for each that is gone", x.cell(0, 0, 0, 1, 1), i);
            due("drop", x.drop(i), 1);
        }
        due("forty ever, though all are gone", x.cell(0, 0, 0, 1, 1), -2);
        due("none there", x.count(3), 0);
        due("table", x.table(1, 1, 0), 1);
        due("none ever", x.cell(0, 0, 0, 1, 1), 0);
        fortyAreSeen();
    }

    /** The last of forty counts wherever cells do: it alone wants 20, has 3 lines, is not to be cut and calls a note. */
    private static void fortyAreSeen() {
        TableSetter x = of(16, 6, 0);
        for (int i = 0; i < 39; i++) {
            put(x, 1, i % 13, i / 13, 1);
        }
        lay(x, 0, 13, 5, 2, 1, 20, 20, 20);
        naturals("its want", x, 0, 1, 1, 1, 0, 0, 20);
        due("its lines", x.set(23), 17);
        due("on the last of its rows", x.height(14), 2);
        due("its place", x.on(14, 5), 39);
        due("calls", x.calls(39, 512), 0);
        due("it is not cut", x.mayBreak(14), 0);
        due("17 and its note", x.pages(17), -9);
        due("17 and its note", x.pages(18), 1);
        onPages("its note", x, 3, 512);
        due("another one there", x.cell(0, 13, 5, 1, 1), -2);
        x = full();
        due("seven heads", x.count(4), 7);
        due("the last one is on row 6", x.drop(37), 1);
        due("so there are six", x.count(4), 6);
    }

    private static void kinds() {
        TableSetter x = of(4, 1, 0);
        due("a kind below 0", x.cell(-1, 0, 0, 1, 1), -1);
        due("a kind of 4", x.cell(4, 0, 0, 1, 1), -1);
        for (int kind = 0; kind <= 3; kind++) {
            due("a cell", x.cell(kind, kind, 0, 1, 1), kind);
            due("its kind", x.told(kind, 0), kind);
            due("a cell, too", x.is(kind, 0), 1);
        }
        due("a cell is no head", x.is(0, 1), 0);
        due("a loose one is no fixed one", x.is(3, 2), 0);
    }

    private static void sideBySide() {
        TableSetter x = of(4, 4, 0);
        lay(x, 0, 1, 1, 2, 2);
        int[][] want = {{-9, -9, -9, -9}, {-9, 0, 0, -9}, {-9, 0, 0, -9}, {-9, -9, -9, -9}};
        for (int row = 0; row < 4; row++) {
            for (int column = 0; column < 4; column++) {
                due("on " + row + ", " + column, x.on(row, column), want[row][column]);
            }
        }
        due("the row above it", x.cell(0, 0, 0, 1, 4), 1);
        due("the row under it", x.cell(0, 3, 0, 1, 4), 2);
        due("the column ahead of it", x.cell(0, 1, 0, 2, 1), 3);
        due("the column behind it", x.cell(0, 1, 3, 2, 1), 4);
    }

    private static void notTwo() {
        for (int row = 0; row < 4; row++) {
            for (int column = 0; column < 4; column++) {
                TableSetter x = of(4, 4, 0);
                lay(x, 0, 1, 1, 2, 2);
                boolean taken = row >= 1 && row <= 2 && column >= 1 && column <= 2;
                due("a cell on " + row + ", " + column, x.cell(0, row, column, 1, 1), taken ? -3 : 1);
            }
        }
        for (int[] corner : new int[][] {{0, 0}, {0, 2}, {2, 0}, {2, 2}}) {
            TableSetter x = of(4, 4, 0);
            lay(x, 0, 1, 1, 2, 2);
            due("over a corner", x.cell(0, corner[0], corner[1], 2, 2), -3);
            due("over all of it", x.cell(0, 0, 0, 4, 4), -3);
            due("drop", x.drop(0), 1);
            due("where one was", x.cell(0, corner[0], corner[1], 2, 2), 1);
        }
    }

    private static void pieces() {
        TableSetter x = of(1, 1, 0);
        due("a cell", x.cell(0, 0, 0, 1, 1), 0);
        due("none at first", x.told(0, 5), 0);
        due("words(0, 12)", x.words(0, 12), 12);
        due("twelve", x.told(0, 5), 12);
        due("the last one", x.word(0, 11, 5), 1);
        due("words(0, 13)", x.words(0, 13), -1);
        due("twelve still", x.told(0, 5), 12);
        due("words(0, 0)", x.words(0, 0), 0);
        due("none", x.told(0, 5), 0);
    }

    private static void letters() {
        TableSetter x = text(7);
        due("20 letters", x.word(0, 0, 20), 7);
        due("longest", x.want(0, 0), 20);
        due("21 letters", x.word(0, 0, 21), -1);
        due("1 letter", x.word(0, 0, 1), 20);
        due("shortest", x.want(0, 0), 1);
        due("no letters", x.word(0, 0, 0), -1);
        due("1 still", x.word(0, 0, 1), 1);
    }

    private static void notes() {
        TableSetter x = text(1);
        due("none at first", x.told(0, 6), 0);
        due("note 0", x.calls(0, 1), 0);
        due("pages", x.pages(2), 1);
        due("note 0", x.page(0, 3), 1);
        due("note 9", x.calls(0, 512), 1);
        due("pages", x.pages(2), 1);
        due("note 9", x.page(0, 3), 512);
        due("note 10", x.calls(0, 1024), -1);
        due("below none", x.calls(0, -1), -1);
        due("all ten", x.calls(0, 1023), 512);
        due("ten lines and a row: too low", x.pages(10), -9);
        due("ten lines and a row", x.pages(11), 1);
        due("all ten", x.page(0, 3), 1023);
    }

    private static void fixed() {
        TableSetter x = of(1, 1, 0);
        due("a fixed one", x.cell(2, 0, 0, 1, 1), 0);
        naturals("1 at first", x, 0, 1);
        due("fix(0, 60)", x.fix(0, 60), 1);
        naturals("60", x, 1, 60);
        due("fix(0, 61)", x.fix(0, 61), -1);
        due("fix(0, 1)", x.fix(0, 1), 60);
        due("fix(0, 0)", x.fix(0, 0), -1);
        naturals("1", x, 1, 1);
    }

    private static void noteLines() {
        TableSetter x = text(1);
        due("calls", x.calls(0, 1023), 0);
        due("each of 1 line at first: too low", x.pages(10), -9);
        due("each of 1 line at first", x.pages(11), 1);
        for (int k = 0; k <= 9; k++) {
            due("1 at first", x.note(k, 6), 1);
            due("7 lines", x.note(k, 7), -1);
            due("no lines", x.note(k, 0), -1);
        }
        due("note -1", x.note(-1, 1), -1);
        due("note 10", x.note(10, 1), -1);
        due("each of 6 lines: too low", x.pages(60), -9);
        due("each of 6 lines", x.pages(61), 1);
        for (int k = 0; k <= 9; k++) {
            due("1 line again", x.note(k, 1), 6);
        }
    }

    private static void inOrder() {
        due("2 5, 2 5", text(2, 5, 2, 5).lines(0, 8), 2);
        due("5, 5 2, 2", text(5, 5, 2, 2).lines(0, 8), 3);
        due("2 2, 5, 5", text(2, 2, 5, 5).lines(0, 8), 3);
        due("1, 4, 2", text(1, 6).lines(0, 4), 3);
        due("4, 2 1", text(6, 1).lines(0, 4), 2);
    }

    private static void firstPiece() {
        TableSetter x = text(5);
        due("one letter more", x.lines(0, 6), 1);
        due("no blank ahead of it", x.lines(0, 5), 1);
        due("one letter less", x.lines(0, 4), 2);
        due("one letter in a width of 1", text(1).lines(0, 1), 1);
    }

    private static void nextPiece() {
        TableSetter x = text(2, 3);
        due("2, a blank, 3", x.lines(0, 6), 1);
        due("no room for the blank", x.lines(0, 5), 2);
        x = text(2, 3, 4);
        due("all", x.lines(0, 11), 1);
        due("the third on a new line", x.lines(0, 10), 2);
        due("the first and second", x.lines(0, 6), 2);
        due("the new line goes on: 2, 3, 4", x.lines(0, 5), 3);
        due("the second and third: 2, 3 1", text(2, 3, 1).lines(0, 5), 2);
        due("letters of one and blanks", text(alike(12, 1)).lines(0, 23), 1);
        due("twelve of one", text(alike(12, 1)).lines(0, 22), 2);
        x = text(alike(12, 20));
        due("twelve of twenty", x.lines(0, 251), 1);
        due("twelve of twenty, one short", x.lines(0, 250), 2);
        due("two on each line", x.lines(0, 41), 6);
        due("one on each line", x.lines(0, 40), 12);
    }

    private static void longPiece() {
        TableSetter x = text(6);
        due("n as w", x.lines(0, 6), 1);
        due("n above w", x.lines(0, 5), 2);
        x = text(1, 6);
        due("there is room behind the first: 1, 4, 2", x.lines(0, 4), 3);
        due("1, 5, 1", x.lines(0, 5), 3);
        due("n as w: 1, 6", x.lines(0, 6), 2);
    }

    private static void filled() {
        TableSetter x = text(20);
        int[][] want = {{1, 20}, {2, 10}, {3, 7}, {6, 4}, {7, 3}, {9, 3}, {10, 2}, {19, 2}, {20, 1}};
        for (int[] w : want) {
            due("20 in " + w[0], x.lines(0, w[0]), w[1]);
        }
        due("twelve of twenty in 1", text(alike(12, 20)).lines(0, 1), 240);
    }

    private static void rest() {
        due("4, 1 2", text(5, 2).lines(0, 4), 2);
        due("4, 1, 3", text(5, 3).lines(0, 4), 3);
        due("a rest of w: 4, 4, 1", text(8, 1).lines(0, 4), 3);
        due("a rest of w less 1: 4, 3, 1", text(7, 1).lines(0, 4), 3);
        due("a rest of w less 2: 4, 2 1", text(6, 1).lines(0, 4), 2);
        due("the rest of a rest: 3, 3, 1 1", text(7, 1).lines(0, 3), 3);
        due("a long one behind a rest: 4, 1, 4, 1", text(5, 5).lines(0, 4), 4);
        due("a width of 1 leaves none: 1, 1, 1", text(2, 1).lines(0, 1), 3);
    }

    private static void noPieces() {
        TableSetter x = text();
        due("in 1", x.lines(0, 1), 0);
        due("in 400", x.lines(0, 400), 0);
        due("words", x.words(0, 1), 1);
        due("one", x.lines(0, 400), 1);
        due("words", x.words(0, 0), 0);
        due("none again", x.lines(0, 400), 0);
        heights("a row has 1 at first", x, 1);
    }

    private static void narrow() {
        TableSetter x = text(3, 2);
        heights("a width of 0", x, 5);
        due("a width of 1", x.lines(0, 1), 5);
        x = of(1, 2, 1);
        lay(x, 0, 0, 0, 1, 2, 3, 2);
        heights("0, a gap of 1, 0", x, 5);
        x = of(1, 2, 2);
        lay(x, 0, 0, 0, 1, 2, 3, 2);
        heights("0, a gap of 2, 0", x, 3);
    }

    private static void least() {
        due("the first", text(9, 5, 2).want(0, 0), 9);
        due("the middle", text(5, 9, 2).want(0, 0), 9);
        due("the last", text(2, 5, 9).want(0, 0), 9);
        due("the last of twelve", text(1, 1, 1, 1, 1, 1, 1, 1, 1, 1, 1, 20).want(0, 0), 20);
        due("one of one", text(1).want(0, 0), 1);
    }

    private static void best() {
        due("one has no blank", text(7).want(0, 1), 7);
        due("two have one", text(7, 1).want(0, 1), 9);
        due("twelve have eleven", text(alike(12, 20)).want(0, 1), 251);
        due("in that width it is one line", text(7, 1).lines(0, 9), 1);
    }

    private static void wantOfNone() {
        for (int kind : new int[] {0, 1, 3}) {
            TableSetter x = of(1, 1, 0);
            put(x, kind, 0, 0);
            due("least", x.want(0, 0), 0);
            due("best", x.want(0, 1), 0);
            naturals("nothing is wanted", x, 1, 0);
        }
    }

    private static void wantOfFixed() {
        TableSetter x = of(1, 1, 0);
        put(x, 2, 0, 0, 20, 20);
        due("least, 1 at first", x.want(0, 0), 1);
        due("best, 1 at first", x.want(0, 1), 1);
        due("fix", x.fix(0, 60), 1);
        due("least, above its text", x.want(0, 0), 60);
        due("best, above its text", x.want(0, 1), 60);
        due("words", x.words(0, 0), 0);
        due("least, without pieces", x.want(0, 0), 60);
        due("best, without pieces", x.want(0, 1), 60);
    }

    /** What a cell over all columns shares among columns of these weights. */
    private static void shared(int n, int[] weights, int... want) {
        TableSetter x = of(1, weights.length, 0);
        for (int c = 0; c < weights.length; c++) {
            due("weight", x.weight(c, weights[c]), 1);
        }
        lay(x, 0, 0, 0, 1, weights.length, n);
        naturals(n + " shared", x, 0, want);
    }

    private static void sharedCut() {
        shared(6, new int[] {1, 1, 1}, 2, 2, 2);
        shared(20, new int[] {9}, 20);
        shared(10, new int[] {9, 1}, 9, 1);
        shared(3, new int[] {1, 1}, 2, 1);
        shared(9, new int[] {9, 1}, 8, 1);
        shared(11, new int[] {1, 9}, 1, 10);
        shared(1, new int[] {9, 9, 9, 9, 9, 9}, 1, 0, 0, 0, 0, 0);
        shared(18, new int[] {9, 9, 9, 9, 9, 9}, 3, 3, 3, 3, 3, 3);
    }

    private static void sharedRest() {
        shared(1, new int[] {1, 9}, 0, 1);
        shared(5, new int[] {1, 2, 4}, 1, 1, 3);
        shared(4, new int[] {1, 2, 4}, 1, 1, 2);
        shared(11, new int[] {6, 6, 2}, 5, 5, 1);
        shared(10, new int[] {6, 6, 2}, 4, 4, 2);
        shared(5, new int[] {1, 1, 1, 1, 1, 2}, 1, 1, 1, 1, 0, 1);
    }

    private static void sharedEven() {
        shared(1, new int[] {1, 1}, 1, 0);
        shared(2, new int[] {1, 1, 1, 1}, 1, 1, 0, 0);
        shared(5, new int[] {1, 1, 1, 1, 1, 1}, 1, 1, 1, 1, 1, 0);
        shared(20, new int[] {1, 1, 1}, 7, 7, 6);
        shared(2, new int[] {1, 9, 1, 9}, 0, 1, 0, 1);
        shared(1, new int[] {1, 9, 1, 9}, 0, 1, 0, 0);
    }
}
