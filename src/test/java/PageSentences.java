/** Terms 3: head rows, breaks, homes of notes, and how rows are laid on pages. */
final class PageSentences extends Tables {
    private PageSentences() {
    }

    static void tell(Sentences s) {
        s.in("Terms");
        s.of("HEAD ROWS: ROW 0 and on, as long as a HEAD lies on each.", PageSentences::headRows);
        s.of("BODY ROWS: the others.", PageSentences::bodyRows);
        s.of("A PAGE has H LINES.", PageSentences::pageLines);
        s.of("A BREAK may stand ahead of a BODY ROW (not the first one)", PageSentences::breaks);
        s.of("if no CELL but a LOOSE one lies on it and on the ROW ahead of it.", PageSentences::noCellIsCut);
        s.of("The HOME of a NOTE that is CALLED: the least ROW on which a CELL begins that CALLS it", PageSentences::home);
        s.of("(a HEAD ROW: the first BODY ROW)", PageSentences::homeOfHeads);
        s.of("A PAGE has the HEAD ROWS", PageSentences::headsOnEach);
        s.of("some BODY ROWS from a BREAK (the first one) to the next", PageSentences::fromBreakToBreak);
        s.of("and all NOTES whose HOME is among these", PageSentences::notesOfAPage);
        s.of("their HEIGHTS and LINES together are H at most", PageSentences::atMost);
        s.of("and its BODY ROWS are not one alone of HEIGHT 1", PageSentences::notAlone);
        s.of("unless there is no other one.", PageSentences::onlyOne);
        s.of("EMPTY: what is left of H.", PageSentences::empty);
        s.of("PAGES: all BODY ROWS, in the fewest PAGES", PageSentences::fewest);
        s.of("of these with the least sum of squares of EMPTY", PageSentences::leastWaste);
        s.of("the last one aside", PageSentences::lastAside);
        s.of("of these that with most ROWS on the first PAGE", PageSentences::mostOnTheFirst);
        s.of("then on the second, and so on.", PageSentences::mostOnTheSecond);
        s.of("Without BODY ROWS: no PAGES.", PageSentences::noBodyRows);
    }

    private static void headRows() {
        TableSetter x = of(16, 2, 0);
        due("no cells", x.count(4), 0);
        due("a head on row 1 alone", x.cell(1, 1, 0, 1, 1), 0);
        due("row 0 has none", x.count(4), 0);
        due("a cell on row 0", x.cell(0, 0, 0, 1, 1), 1);
        due("which is no head", x.count(4), 0);
        due("a head beside it", x.cell(1, 0, 1, 1, 1), 2);
        due("rows 0 and 1", x.count(4), 2);
        due("a head on row 3", x.cell(1, 3, 1, 1, 1), 3);
        due("row 2 has none", x.count(4), 2);
        due("a head on rows 2 to 14", x.cell(1, 2, 0, 13, 1), 4);
        due("rows 0 to 14", x.count(4), 15);
        due("a head on the last row", x.cell(1, 15, 0, 1, 1), 5);
        due("all rows", x.count(4), 16);
        due("drop", x.drop(4), 1);
        due("rows 0 and 1 again", x.count(4), 2);
        for (int kind : new int[] {0, 2, 3}) {
            due("of another kind", x.table(1, 1, 0), 1);
            due("of another kind", x.cell(kind, 0, 0, 1, 1), 0);
            due("of another kind: no head", x.count(4), 0);
        }
    }

    private static void bodyRows() {
        TableSetter x = of(3, 1, 0);
        due("pages(3)", x.pages(3), 1);
        rowsOnPages("all are body rows", x, 0, 3);
        put(x, 1, 0, 0);
        due("pages(3)", x.pages(3), 1);
        rowsOnPages("all but row 0", x, 1, 2);
        put(x, 1, 2, 0);
        due("pages(3)", x.pages(3), 1);
        rowsOnPages("a head further down is in a body row", x, 1, 2);
        due("drop", x.drop(1), 1);
        due("a head on rows 1 and 2", x.cell(1, 1, 0, 2, 1), 2);
        due("pages(3)", x.pages(3), 0);
    }

    private static void pageLines() {
        TableSetter x = rowsOf(1, 1, 1);
        due("three", x.pages(3), 1);
        due("two, and none is alone", x.pages(2), -9);
        x = text(alike(10, 20));
        due("a row of 200", x.count(6), 200);
        due("200 lines", x.pages(200), 1);
        due("all are filled", x.page(0, 2), 0);
        due("199 lines", x.pages(199), -9);
        due("201 lines are none", x.pages(201), -1);
        x = of(1, 1, 0);
        due("one line", x.pages(1), 1);
        due("it is filled", x.page(0, 2), 0);
        due("no lines are none", x.pages(0), -1);
    }

    private static void breaks() {
        TableSetter x = of(4, 1, 0);
        mayBreaks("not ahead of the first", x, 0, 1, 1, 1);
        put(x, 1, 0, 0);
        mayBreaks("row 1 is the first", x, 0, 0, 1, 1);
        put(x, 1, 1, 0);
        mayBreaks("row 2 is the first", x, 0, 0, 0, 1);
        due("a head on the others", x.cell(1, 2, 0, 2, 1), 2);
        mayBreaks("none is a body row", x, 0, 0, 0, 0);
        x = of(16, 1, 0);
        due("ahead of the last of sixteen", x.mayBreak(15), 1);
        due("there is no other one", of(1, 1, 0).mayBreak(0), 0);
    }

    private static void noCellIsCut() {
        for (int kind = 0; kind <= 3; kind++) {
            TableSetter x = of(7, 2, 0);
            lay(x, kind, 2, 1, 3, 1);
            int cut = kind == 3 ? 1 : 0;
            mayBreaks("a cell of kind " + kind + " on 2 to 4", x, 0, 1, 1, cut, cut, 1, 1);
            lay(x, 3, 1, 0, 6, 1);
            mayBreaks("a loose one beside it", x, 0, 1, 1, cut, cut, 1, 1);
            due("drop", x.drop(0), 1);
            mayBreaks("it is gone", x, 0, 1, 1, 1, 1, 1, 1);
        }
        TableSetter x = of(3, 2, 0);
        put(x, 0, 1, 0);
        put(x, 0, 2, 0);
        mayBreaks("cells on one row each", x, 0, 1, 1);
        lay(x, 0, 1, 1, 2, 1);
        mayBreaks("one over both, with a number above theirs", x, 0, 1, 0);
        x = of(4, 2, 0);
        put(x, 1, 0, 0);
        lay(x, 0, 0, 1, 2, 1);
        mayBreaks("from a head row to the first body row", x, 0, 0, 1, 1);
    }

    private static void home() {
        TableSetter x = of(6, 2, 0);
        lay(x, 3, 2, 0, 4, 1);
        due("calls", x.calls(0, 1), 0);
        due("pages(4)", x.pages(4), 2);
        rowsOnPages("a loose cell from row 2 on", x, 0, 3, 3);
        onPages("on the page where it begins", x, 3, 1, 0);
        put(x, 0, 4, 1);
        due("calls further down, too", x.calls(1, 3), 0);
        due("pages(4)", x.pages(4), 2);
        onPages("where it is first called; note 1 further down", x, 3, 1, 2);
        put(x, 0, 0, 1);
        due("a row above, with a number above, calls both", x.calls(2, 3), 0);
        due("pages(5)", x.pages(5), 2);
        rowsOnPages("two notes on the first", x, 0, 3, 3);
        onPages("the least row", x, 3, 3, 0);
        due("drop", x.drop(2), 1);
        due("pages(5)", x.pages(5), 2);
        onPages("what is gone calls none", x, 3, 1, 2);
        due("not called", x.calls(0, 0), 1);
        due("pages(5)", x.pages(5), 2);
        rowsOnPages("five and one is none", x, 0, 4, 2);
        onPages("at home on row 4 now", x, 3, 0, 3);
        due("not called", x.calls(1, 0), 3);
        due("pages(6)", x.pages(6), 1);
        onPages("none is called", x, 3, 0);
        x = text();
        due("calls in the last row, the last note", x.calls(0, 512), 0);
        due("pages(2)", x.pages(2), 1);
        onPages("note 9", x, 3, 512);
    }

    private static void homeOfHeads() {
        TableSetter x = of(6, 2, 0);
        put(x, 1, 0, 0);
        put(x, 1, 1, 0);
        put(x, 0, 1, 1);
        put(x, 0, 2, 0);
        put(x, 0, 4, 0);
        due("a head on row 0 calls", x.calls(0, 1), 0);
        due("a head on row 1 calls", x.calls(1, 2), 0);
        due("a cell on the head row 1 calls", x.calls(2, 4), 0);
        due("the first body row calls", x.calls(3, 8), 0);
        due("a later row calls all of them", x.calls(4, 31), 0);
        due("pages(8)", x.pages(8), 2);
        rowsOnPages("2 + 2 + 4, 2 + 2 + 1", x, 2, 2, 2);
        onPages("on the first page alone", x, 3, 15, 16);
        onPages("nothing is left, then 3", x, 2, 0, 3);
        x = of(3, 1, 0);
        put(x, 1, 0, 0);
        put(x, 0, 1, 0, 1, 1);
        put(x, 0, 2, 0, 1, 1);
        due("a head calls", x.calls(0, 1), 0);
        due("the first body row calls", x.calls(1, 2), 0);
        due("pages(5)", x.pages(5), 2);
        onPages("where the first body row is", x, 3, 3, 0);
        x = of(2, 1, 0);
        lay(x, 1, 0, 0, 2, 1);
        due("calls", x.calls(0, 1), 0);
        due("no body row: no home", x.pages(9), 0);
    }

    private static void headsOnEach() {
        TableSetter x = of(6, 1, 0);
        put(x, 1, 0, 0, 1, 1);
        put(x, 1, 1, 0);
        due("pages(5)", x.pages(5), 2);
        rowsOnPages("3 for heads, 2 for others", x, 2, 2, 2);
        onPages("nothing is left of either", x, 2, 0, 0);
        due("pages(4)", x.pages(4), -9);
        due("pages(3)", x.pages(3), -9);
        due("pages(1)", x.pages(1), -9);
        due("drop", x.drop(0), 1);
        due("pages(5)", x.pages(5), 2);
        rowsOnPages("no heads", x, 0, 4, 2);
        TableSetter y = of(9, 1, 0);
        put(y, 1, 0, 0, 1, 1);
        put(y, 1, 1, 0);
        due("pages(6)", y.pages(6), 3);
        rowsOnPages("3 for heads on each of three", y, 2, 3, 2, 2);
        onPages("5 less 4, 5 less 2", x, 2, 1, 3);
    }

    private static void fromBreakToBreak() {
        TableSetter x = of(6, 1, 0);
        lay(x, 0, 1, 0, 3, 1);
        due("pages(6)", x.pages(6), 1);
        rowsOnPages("all", x, 0, 6);
        due("pages(5)", x.pages(5), 2);
        rowsOnPages("a break ahead of row 4", x, 0, 4, 2);
        due("pages(4)", x.pages(4), 2);
        rowsOnPages("a break ahead of row 4", x, 0, 4, 2);
        due("pages(3): row 0 is alone then", x.pages(3), -9);
        lay(x, 0, 4, 0, 2, 1);
        due("pages(5)", x.pages(5), 2);
        rowsOnPages("a break ahead of row 4", x, 0, 4, 2);
        due("drop", x.drop(1), 1);
        due("drop", x.drop(0), 1);
        lay(x, 0, 0, 0, 6, 1);
        due("pages(6)", x.pages(6), 1);
        due("pages(5): there is no break", x.pages(5), -9);
        due("drop", x.drop(2), 1);
        lay(x, 3, 0, 0, 6, 1);
        due("pages(5): a loose one", x.pages(5), 2);
        rowsOnPages("cut", x, 0, 4, 2);
    }

    private static void notesOfAPage() {
        TableSetter x = of(4, 1, 0);
        put(x, 0, 0, 0);
        put(x, 0, 2, 0);
        due("calls", x.calls(0, 1), 0);
        due("calls", x.calls(1, 7), 0);
        due("note", x.note(1, 2), 1);
        due("all on one: 4 + 1 + 2 + 1", x.pages(8), 1);
        onPages("all notes", x, 3, 7);
        onPages("nothing is left", x, 2, 0);
        due("pages(7)", x.pages(7), 2);
        rowsOnPages("two pages", x, 0, 2, 2);
        onPages("note 0 is on the first alone", x, 3, 1, 6);
        onPages("7 less 2 and 1, 7 less 2 and 3", x, 2, 4, 2);
        due("row 2 calls none", x.calls(1, 0), 7);
        due("all on one: 4 + 1", x.pages(7), 1);
        onPages("note 0", x, 3, 1);
        due("none is called", x.calls(0, 0), 1);
        due("pages(4)", x.pages(4), 1);
        onPages("no notes", x, 3, 0);
    }

    private static void atMost() {
        TableSetter x = rowsOf(3, 2, 4);
        due("as many as there are", x.pages(9), 1);
        due("one less", x.pages(8), 2);
        due("as many as the first takes", x.pages(5), 2);
        rowsOnPages("5 and 4", x, 0, 2, 1);
        due("as many as the last takes", x.pages(4), 3);
        due("one less", x.pages(3), -9);
        x = rowsOf(5, 2, 4);
        due("as many as the second takes", x.pages(6), 2);
        rowsOnPages("5 and 6", x, 0, 1, 2);
        due("one less", x.pages(5), 3);
        x = text(1);
        due("calls", x.calls(0, 1), 0);
        due("note", x.note(0, 6), 1);
        due("a row and 6 lines", x.pages(7), 1);
        due("one less", x.pages(6), -9);
        x = of(2, 1, 0);
        put(x, 1, 0, 0, 1, 1, 1);
        due("a head of 3 and a row", x.pages(4), 1);
        due("one less", x.pages(3), -9);
        due("less than the head", x.pages(2), -9);
    }

    private static void notAlone() {
        TableSetter x = rowsOf(1, 1, 1);
        due("two and one", x.pages(2), -9);
        x = rowsOf(1, 1, 2);
        due("two of 1, one of 2", x.pages(2), 2);
        rowsOnPages("one of height 2 may be alone", x, 0, 2, 1);
        x = rowsOf(2, 1, 1);
        due("one of 2, two of 1", x.pages(2), 2);
        rowsOnPages("one of height 2 may be alone", x, 0, 1, 2);
        x = rowsOf(1, 2, 1);
        due("1 and 3, 3 and 1: neither may be", x.pages(3), -9);
        x = rowsOf(2, 2, 1);
        due("not 4 and 1, but 2 and 3", x.pages(4), 2);
        rowsOnPages("the last is not alone", x, 0, 1, 2);
        x = of(3, 1, 0);
        put(x, 1, 0, 0, 1, 1);
        due("a head does not keep it company", x.pages(3), -9);
        x = rowsOf(1, 2);
        due("calls", x.calls(0, 1), 0);
        due("a note does not make it high", x.pages(2), -9);
        due("both and the note", x.pages(4), 1);
    }

    private static void onlyOne() {
        TableSetter x = of(1, 1, 0);
        due("a table of one row", x.pages(1), 1);
        rowsOnPages("one row", x, 0, 1);
        x = of(2, 1, 0);
        put(x, 1, 0, 0);
        due("one body row", x.pages(2), 1);
        rowsOnPages("one body row", x, 1, 1);
        due("too low", x.pages(1), -9);
        due("drop", x.drop(0), 1);
        due("there is another one now", x.pages(1), -9);
        x = rowsOf(1, 2);
        due("another one of height 2", x.pages(2), -9);
    }

    private static void empty() {
        TableSetter x = rowsOf(3, 4, 2);
        due("pages(9)", x.pages(9), 1);
        onPages("nothing", x, 2, 0);
        due("pages(10)", x.pages(10), 1);
        onPages("one", x, 2, 1);
        due("pages(200)", x.pages(200), 1);
        onPages("200 less 9", x, 2, 191);
        due("pages(8)", x.pages(8), 2);
        rowsOnPages("7 and 2", x, 0, 2, 1);
        onPages("1 and 6", x, 2, 1, 6);
        due("calls", x.calls(2, 3), 0);
        due("note", x.note(1, 5), 1);
        due("pages(8)", x.pages(8), 2);
        onPages("1, and 8 less 2 less 1 less 5", x, 2, 1, 0);
    }

    private static void fewest() {
        TableSetter x = rowsOf(7, 5, 5, 7, 3, 3, 8, 2);
        due("pages(12)", x.pages(12), 4);
        rowsOnPages("0, 0, 6; 5, 2, 2, 1 is less in five", x, 0, 2, 2, 2, 2);
        due("pages(40)", x.pages(40), 1);
        due("pages(39)", x.pages(39), 2);
        x = rowsOf(alike(16, 2));
        due("sixteen pages", x.pages(2), 16);
        rowsOnPages("one row each", x, 0, alike(16, 1));
        due("pages(32)", x.pages(32), 1);
        rowsOnPages("all sixteen rows", x, 0, 16);
        due("pages(31)", x.pages(31), 2);
        rowsOnPages("all but one", x, 0, 15, 1);
    }

    private static void leastWaste() {
        TableSetter x = rowsOf(5, 2, 3, 5);
        due("pages(7)", x.pages(7), 3);
        rowsOnPages("2 and 2 is less than 0 and 4 in squares alone", x, 0, 1, 2, 1);
        onPages("8, not 16", x, 2, 2, 2, 2);
        x = rowsOf(3, 3, 2, 4, 3, 3, 3);
        due("pages(9)", x.pages(9), 3);
        rowsOnPages("1 and 2", x, 0, 3, 2, 2);
        x = rowsOf(2, 1, 1, 2, 2, 2);
        due("pages(5)", x.pages(5), 3);
        rowsOnPages("1 and 1 is less than 2 and 0", x, 0, 3, 2, 1);
    }

    private static void lastAside() {
        TableSetter x = rowsOf(2, 2, 2, 2);
        due("pages(7)", x.pages(7), 2);
        rowsOnPages("1 and 5: 1 alone counts", x, 0, 3, 1);
        x = rowsOf(3, 3, 3, 3);
        due("pages(10)", x.pages(10), 2);
        rowsOnPages("1 and 7, not 4 and 4", x, 0, 3, 1);
        x = rowsOf(2, 2, 2, 2, 2, 2, 2);
        due("pages(6)", x.pages(6), 3);
        rowsOnPages("full ones, then what is left", x, 0, 3, 3, 1);
    }

    private static void mostOnTheFirst() {
        TableSetter x = rowsOf(3, 2, 3, 5);
        due("pages(7)", x.pages(7), 3);
        rowsOnPages("2 and 4, 4 and 2 are alike", x, 0, 2, 1, 1);
        onPages("2 and 4", x, 2, 2, 4, 2);
    }

    private static void mostOnTheSecond() {
        TableSetter x = rowsOf(7, 3, 2, 3, 5);
        due("pages(7)", x.pages(7), 4);
        rowsOnPages("0, then 2 and 4, 4 and 2 are alike", x, 0, 1, 2, 1, 1);
        x = rowsOf(7, 7, 3, 2, 3, 5);
        due("pages(7)", x.pages(7), 5);
        rowsOnPages("0, 0, then 2 and 4, 4 and 2 are alike", x, 0, 1, 1, 2, 1, 1);
    }

    private static void noBodyRows() {
        TableSetter x = of(3, 1, 0);
        due("a page", x.pages(3), 1);
        lay(x, 1, 0, 0, 3, 1);
        due("none", x.pages(3), 0);
        rowsOnPages("none", x, 3);
        due("less than the head", x.pages(1), 0);
        due("no row is on a page", x.pageOf(0), -9);
        x = new TableSetter();
        put(x, 1, 0, 0);
        due("one row, a head", x.pages(200), 0);
        due("none", x.count(5), 0);
    }
}
