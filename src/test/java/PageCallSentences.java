/** Promises 25 to 28: pages, call by call. */
final class PageCallSentences extends Tables {
    private PageCallSentences() {
    }

    static void tell(Sentences s) {
        s.in("Promise 25");
        s.of("PAGES of h LINES (1 .. 200) are made with WIDTHS, CELLS, NOTES as they are: how many", PageCallSentences::pagesAreMade);
        s.of("NONE: there is no such way (there are none then).", PageCallSentences::noWay);
        s.of("BAD.", PageCallSentences::pagesBad);
        s.in("Promise 26");
        s.of("Of a PAGE of the latest pages(): 0 its first BODY ROW, 1 how many, 2 EMPTY, 3 NOTES (bits).",
            PageCallSentences::pageFacts);
        s.of("NONE: none such.", PageCallSentences::pageNone);
        s.of("BAD: what.", () -> Refusals.of("page", BAD));
        s.in("Promise 27");
        s.of("The PAGE of the latest pages() on which a ROW lies", PageCallSentences::pageOfRows);
        s.of("(a HEAD ROW: 0)", PageCallSentences::pageOfHeads);
        s.of("NONE: none.", PageCallSentences::pageOfNone);
        s.of("BAD.", () -> Refusals.of("pageOf", BAD));
        s.in("Promise 28");
        s.of("Whether a BREAK may stand ahead of a ROW: 1, 0.", PageCallSentences::mayBreakAhead);
        s.of("BAD.", () -> Refusals.of("mayBreak", BAD));
    }

    private static void pagesAreMade() {
        TableSetter x = of(4, 1, 0);
        put(x, 0, 0, 0, 2, 2, 2);
        due("1 of 200", x.pages(200), 1);
        due("a width of 0: 6 lines and 3 rows", x.pages(9), 1);
        due("one less", x.pages(8), 2);
        due("set(2)", x.set(2), 6);
        due("widths as they are: 3 lines and 3 rows", x.pages(6), 1);
        due("set(5)", x.set(5), 5);
        due("2 lines and 3 rows", x.pages(5), 1);
        due("words", x.words(0, 2), 2);
        due("cells as they are: 1 line and 3 rows", x.pages(4), 1);
        due("calls", x.calls(0, 1), 0);
        due("a note of 1", x.pages(4), 2);
        due("a note of 1", x.pages(5), 1);
        due("note", x.note(0, 2), 1);
        due("notes as they are", x.pages(5), 2);
        due("notes as they are", x.pages(6), 1);
        due("drop", x.drop(0), 1);
        due("without the cell", x.pages(4), 1);
        due("a row of one", new TableSetter().pages(1), 1);
        x = rowsOf(alike(16, 12));
        due("sixteen pages", x.pages(12), 16);
        due("no row fits", x.pages(11), -9);
        due("one page of 192", x.pages(192), 1);
        due("one less", x.pages(191), 2);
    }

    private static void noWay() {
        TableSetter x = rowsOf(2, 2, 3);
        due("two pages", x.pages(4), 2);
        due("the last row does not fit", x.pages(2), -9);
        rowsOnPages("none then", x, 0);
        due("on none", x.pageOf(0), -9);
        due("no finding", x.finding(), 0);
        due("three pages", x.pages(3), 3);
        due("nor does the first one", x.pages(1), -9);
        due("none then", x.count(5), 0);
        x = rowsOf(12);
        due("one less", x.pages(11), -9);
        due("one row", x.pages(12), 1);
    }

    private static void pagesBad() {
        Refusals.of("pages", BAD);
        TableSetter x = rich();
        due("200 is one", x.pages(200), 1);
        due("1 is one, though there is no way", x.pages(1), -9);
        due("which takes the pages away", x.count(5), 0);
    }

    private static void pageFacts() {
        TableSetter x = of(8, 1, 0);
        put(x, 1, 0, 0, 1, 1);
        lay(x, 3, 5, 0, 2, 1);
        put(x, 0, 3, 0);
        due("note 0", x.note(0, 2), 1);
        due("calls", x.calls(1, 514), 0);
        due("calls", x.calls(2, 1), 0);
        due("pages(9)", x.pages(9), 2);
        for (int round = 0; round <= 1; round++) {
            int[][] want = {{1, 4, 1, 1}, {5, 3, 2, 514}};
            for (int p = 0; p < 2; p++) {
                for (int what = 0; what <= 3; what++) {
                    due("page(" + p + ", " + what + ")", x.page(p, what), want[p][what]);
                }
            }
            // What comes after pages() is no matter to what they were made of.
            due("calls", x.calls(1, 0), round == 0 ? 514 : 0);
            due("note", x.note(0, 6), round == 0 ? 2 : 6);
            due("words", x.words(2, 12), 12);
            due("set", x.set(400), 8);
        }
        due("pages(8)", x.pages(8), -9);
        due("the latest pages() has none", x.page(0, 0), -9);
        due("pages(200)", x.pages(200), 1);
        onPages("note 0 alone is called now", x, 3, 1);
        due("calls", x.calls(2, 0), 1);
        due("pages(200)", x.pages(200), 1);
        onPages("none is called now", x, 3, 0);
        x = rowsOf(alike(16, 12));
        due("sixteen pages", x.pages(12), 16);
        due("the last one", x.page(15, 0), 15);
    }

    private static void pageNone() {
        TableSetter x = rich();
        due("the last one", x.page(1, 0), 3);
        for (int p : new int[] {-1, 2, 15, 16, LEAST_INT, MOST_INT}) {
            for (int what = 0; what <= 3; what++) {
                due("page(" + p + ", " + what + ")", x.page(p, what), -9);
            }
        }
        due("fewer", x.pages(200), 1);
        due("page 1 is none now", x.page(1, 0), -9);
        due("a new object", new TableSetter().page(0, 0), -9);
    }

    private static void pageOfRows() {
        TableSetter x = rowsOf(2, 2, 2, 2, 2);
        due("pages(4)", x.pages(4), 3);
        int[] want = {0, 0, 1, 1, 2};
        for (int row = 0; row < 5; row++) {
            due("pageOf(" + row + ")", x.pageOf(row), want[row]);
        }
        due("drop", x.drop(0), 1);
        due("pages stay as they were made", x.pageOf(4), 2);
        due("pages(200)", x.pages(200), 1);
        due("the latest ones", x.pageOf(4), 0);
    }

    private static void pageOfHeads() {
        TableSetter x = of(7, 1, 0);
        put(x, 1, 0, 0);
        put(x, 1, 1, 0);
        due("pages(5)", x.pages(5), 2);
        int[] want = {0, 0, 0, 0, 0, 1, 1};
        for (int row = 0; row < 7; row++) {
            due("pageOf(" + row + ")", x.pageOf(row), want[row]);
        }
    }

    private static void pageOfNone() {
        TableSetter x = of(3, 1, 0);
        due("no pages yet", x.pageOf(0), -9);
        put(x, 1, 0, 0);
        due("no pages yet, a head row", x.pageOf(0), -9);
        due("pages(3)", x.pages(3), 1);
        due("one", x.pageOf(0), 0);
        due("pages(1)", x.pages(1), -9);
        due("no way, a head row", x.pageOf(0), -9);
        due("no way, a body row", x.pageOf(2), -9);
        due("a head on all", x.cell(1, 1, 0, 2, 1), 1);
        due("no body rows", x.pages(9), 0);
        due("no pages", x.pageOf(0), -9);
        due("table", x.table(3, 1, 0), 3);
        due("pages(3)", x.pages(3), 1);
        due("table", x.table(3, 1, 0), 3);
        due("no pages", x.pageOf(2), -9);
    }

    private static void mayBreakAhead() {
        TableSetter x = of(16, 1, 0);
        due("the first row", x.mayBreak(0), 0);
        due("the second", x.mayBreak(1), 1);
        due("the last", x.mayBreak(15), 1);
        put(x, 1, 0, 0);
        due("a head row", x.mayBreak(0), 0);
        due("the first body row", x.mayBreak(1), 0);
        due("the second body row", x.mayBreak(2), 1);
        due("a cell on the last two", x.cell(0, 14, 0, 2, 1), 1);
        due("the last", x.mayBreak(15), 0);
        due("where it begins", x.mayBreak(14), 1);
        due("drop", x.drop(1), 1);
        due("the last", x.mayBreak(15), 1);
        due("one row alone", new TableSetter().mayBreak(0), 0);
    }
}
