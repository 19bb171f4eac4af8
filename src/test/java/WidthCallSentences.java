/** Promises 19 to 24: widths and heights, call by call. */
final class WidthCallSentences extends Tables {
    private WidthCallSentences() {
    }

    static void tell(Sentences s) {
        s.in("Promise 19");
        s.of("What a COLUMN has in L (0), B (1).", WidthCallSentences::naturalOfColumns);
        s.of("BAD.", () -> Refusals.of("natural", BAD));
        s.in("Promise 20");
        s.of("WIDTHS become those that are SET to a total (0 .. 400): HEIGHT.", WidthCallSentences::setWidths);
        s.of("BAD; STATE.", WidthCallSentences::setRefused);
        s.in("Promise 21");
        s.of("WIDTHS become those that are TIGHT for a total", WidthCallSentences::tightWidths);
        s.of("when they are found by n TRIES at most (1 .. 20000; one for each WIDTHS that are looked at): HEIGHT.",
            WidthCallSentences::tightTries);
        s.of("BAD; STATE: as set()", WidthCallSentences::tightRefused);
        s.of("SPENT.", WidthCallSentences::tightSpent);
        s.in("Promise 22");
        s.of("TRIES of the latest tight() that was not BAD, STATE (all that there are; n, if it was SPENT)",
            WidthCallSentences::triesOfTheLatest);
        s.of("0 before.", WidthCallSentences::triesBefore);
        s.in("Promise 23");
        s.of("The WIDTH of a COLUMN.", WidthCallSentences::widthOfColumns);
        s.of("BAD.", () -> Refusals.of("width", BAD));
        s.in("Promise 24");
        s.of("The HEIGHT of a ROW with WIDTHS as they are.", WidthCallSentences::heightOfRows);
        s.of("BAD.", () -> Refusals.of("height", BAD));
    }

    private static void naturalOfColumns() {
        TableSetter x = of(2, 6, 1);
        put(x, 0, 0, 0, 9, 8);
        put(x, 0, 1, 5, 3);
        naturals("L", x, 0, 9, 0, 0, 0, 0, 3);
        naturals("B", x, 1, 18, 0, 0, 0, 0, 3);
        due("set", x.set(400), 2);
        naturals("whatever the widths are", x, 0, 9, 0, 0, 0, 0, 3);
        due("drop", x.drop(0), 1);
        naturals("with cells as they are", x, 1, 0, 0, 0, 0, 0, 3);
        x = of(1, 1, 3);
        put(x, 0, 0, 0, alike(12, 20));
        naturals("the most one piece wants", x, 0, 20);
        naturals("the most one cell wants", x, 1, 251);
        x = of(1, 6, 0);
        for (int column = 0; column < 6; column++) {
            put(x, 0, 0, column, alike(12, 20));
        }
        naturals("the most of all", x, 1, 251, 251, 251, 251, 251, 251);
        due("L is 120", x.set(119), -4);
        due("L is 120", x.set(120), 12);
    }

    private static void setWidths() {
        TableSetter x = of(2, 2, 1);
        put(x, 0, 0, 0, 4, 4);
        put(x, 0, 1, 1, 6);
        due("set(11)", x.set(11), 3);
        widths("L", x, 4, 6);
        due("set(16)", x.set(16), 2);
        widths("B", x, 9, 6);
        due("set(400)", x.set(400), 2);
        widths("384 above", x, 201, 198);
        due("set(11) again", x.set(11), 3);
        widths("L again", x, 4, 6);
        x = of(16, 6, 0);
        due("set(0)", x.set(0), 16);
        due("set(400)", x.set(400), 16);
        widths("400 by six", x, 67, 67, 67, 67, 66, 66);
    }

    private static void setRefused() {
        Refusals.of("set", BAD);
        Refusals.of("set", STATE);
        TableSetter x = rich();
        due("all of L and the gaps", x.set(15), 8);
        due("one less", x.set(14), -4);
        widths("as they were", x, 6, 7, 0);
        x = of(1, 1, 0);
        put(x, 0, 0, 0, 1);
        due("less than 1", x.set(0), -4);
        due("1", x.set(1), 1);
    }

    private static TableSetter threeOfFour() {
        TableSetter x = of(2, 3, 0);
        put(x, 0, 0, 0, 6, 6, 6, 6);
        put(x, 0, 0, 1, 3, 3, 3, 1);
        put(x, 0, 0, 2, 1, 1, 1, 1);
        return x;
    }

    private static void tightWidths() {
        TableSetter x = threeOfFour();
        due("tight(10, 1)", x.tight(10, 1), 5);
        widths("only L", x, 6, 3, 1);
        due("tight(15, 20000)", x.tight(15, 20000), 5);
        widths("the first of the lowest", x, 6, 3, 6);
        due("tight(29, 20000)", x.tight(29, 20000), 3);
        widths("two lines each, the lesser ahead", x, 13, 7, 9);
        due("tight(23, 20000)", x.tight(23, 20000), 3);
        widths("two lines each: 13, 7, 3", x, 13, 7, 3);
        due("tight(22, 20000)", x.tight(22, 20000), 4);
        widths("not two lines each: three in the second", x, 13, 5, 4);
        due("tight(10, 1) again", x.tight(10, 1), 5);
        widths("only L again", x, 6, 3, 1);
        x = of(1, 1, 0);
        due("a total of 0", x.tight(0, 1), 1);
        widths("0", x, 0);
        due("a total of 400", x.tight(400, 1), 1);
        widths("400", x, 400);
        x = of(1, 2, 3);
        due("a total of 400", x.tight(400, 398), 1);
        widths("less a gap of 3, the lesser ahead", x, 0, 397);
    }

    private static void tightTries() {
        TableSetter x = of(1, 3, 0);
        due("198 on three columns: 200 by 199 by 2", x.tight(198, 19900), 1);
        widths("the first", x, 0, 0, 198);
        due("tries", x.tries(), 19900);
        due("20000 are enough, too", x.tight(198, 20000), 1);
        due("199 on three columns: 20100", x.tight(199, 20000), -6);
        due("more tries than there may be", x.tight(198, 20001), -1);
        due("no tries", x.tight(198, 0), -1);
        due("one, where there is one", x.tight(0, 1), 1);
        due("one, where there are three", x.tight(1, 1), -6);
        due("three, where there are three", x.tight(1, 3), 1);
        x = of(1, 6, 0);
        due("15 on six columns: 15504", x.tight(15, 15504), 1);
        due("16 on six columns: 20349", x.tight(16, 20000), -6);
        widths("as they were", x, 0, 0, 0, 0, 0, 15);
        x = of(1, 1, 0);
        due("one column: one way", x.tight(400, 1), 1);
        due("tries", x.tries(), 1);
        x = of(1, 2, 0);
        due("two columns: 401 ways", x.tight(400, 400), -6);
        due("two columns: 401 ways", x.tight(400, 401), 1);
    }

    private static void tightRefused() {
        Refusals.of("tight", BAD);
        Refusals.of("tight", STATE);
        TableSetter x = rich();
        due("all of L and the gaps", x.tight(15, 1), 8);
        due("one less", x.tight(14, 1), -4);
        x = of(1, 6, 3);
        due("the gaps alone are 15", x.tight(14, 20000), -4);
        due("the gaps", x.tight(15, 1), 1);
    }

    private static void tightSpent() {
        Refusals.of("tight", SPENT);
        TableSetter x = threeOfFour();
        due("set", x.set(15), 5);
        widths("5 by 21, 10, 6", x, 9, 4, 2);
        due("21 ways", x.tight(15, 20), -6);
        widths("as they were", x, 9, 4, 2);
        due("21 ways", x.tight(15, 21), 5);
        widths("tight now", x, 6, 3, 6);
        x = of(1, 6, 0);
        due("88 milliards of ways", x.tight(400, 20000), -6);
        due("88 milliards of ways", x.tight(400, 1), -6);
    }

    private static void triesOfTheLatest() {
        TableSetter x = threeOfFour();
        due("tight(15, 20000)", x.tight(15, 20000), 5);
        due("all that there are", x.tries(), 21);
        due("tight(10, 20000)", x.tight(10, 20000), 5);
        due("all that there are", x.tries(), 1);
        due("spent", x.tight(30, 230), -6);
        due("n", x.tries(), 230);
        due("not spent", x.tight(30, 231), 3);
        due("all that there are", x.tries(), 231);
        due("spent", x.tight(400, 20000), -6);
        due("n", x.tries(), 20000);
        due("spent", x.tight(400, 1), -6);
        due("n", x.tries(), 1);
        due("state", x.tight(9, 5), -4);
        due("n still", x.tries(), 1);
        due("bad", x.tight(15, 20001), -1);
        due("bad", x.tight(401, 5), -1);
        due("n still", x.tries(), 1);
        due("set", x.set(400), 2);
        due("set has none", x.tries(), 1);
        due("table", x.table(1, 1, 0), 1);
        due("the latest is that of before", x.tries(), 1);
    }

    private static void triesBefore() {
        TableSetter x = new TableSetter();
        due("a new object", x.tries(), 0);
        due("set", x.set(5), 1);
        due("set is none", x.tries(), 0);
        due("bad", x.tight(-1, 5), -1);
        due("is none", x.tries(), 0);
        due("bad", x.tight(5, 0), -1);
        due("is none", x.tries(), 0);
        put(x, 0, 0, 0, 6);
        due("state", x.tight(5, 5), -4);
        due("is none", x.tries(), 0);
        due("one", x.tight(6, 5), 1);
        due("one", x.tries(), 1);
    }

    private static void widthOfColumns() {
        TableSetter x = of(1, 6, 1);
        widths("at first", x, 0, 0, 0, 0, 0, 0);
        put(x, 0, 0, 5, 7);
        widths("cells do not change them", x, 0, 0, 0, 0, 0, 0);
        due("set", x.set(12), 1);
        widths("set", x, 0, 0, 0, 0, 0, 7);
        due("word", x.word(0, 0, 20), 7);
        due("weight", x.weight(0, 9), 1);
        widths("letters and weights do not change them", x, 0, 0, 0, 0, 0, 7);
        due("tight", x.tight(26, 500), 1);
        widths("tight", x, 0, 0, 0, 0, 0, 21);
        due("not to be set", x.set(24), -4);
        widths("tight still", x, 0, 0, 0, 0, 0, 21);
    }

    private static void heightOfRows() {
        TableSetter x = of(16, 1, 0);
        due("row 0", x.height(0), 1);
        due("row 15", x.height(15), 1);
        put(x, 0, 15, 0, 5, 5);
        due("in a width of 0", x.height(15), 10);
        due("set", x.set(5), 17);
        due("in a width of 5", x.height(15), 2);
        due("word", x.word(0, 0, 6), 5);
        due("a letter more, widths as they are", x.height(15), 3);
        due("set", x.set(12), 16);
        due("in a width of 12", x.height(15), 1);
        due("words", x.words(0, 0), 0);
        due("no pieces", x.height(15), 1);
        due("words", x.words(0, 12), 12);
        due("twelve in a width of 12", x.height(15), 2);
        due("drop", x.drop(0), 1);
        due("gone", x.height(15), 1);
    }
}
