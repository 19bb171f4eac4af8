/** Terms 2: widths of columns, heights of rows, set and tight. */
final class WidthSentences extends Tables {
    private WidthSentences() {
    }

    static void tell(Sentences s) {
        s.in("Terms");
        s.aside("WIDTHS of COLUMNS for a WANT:");
        s.of("0 at first; for s = 1 to C", WidthSentences::columnsInTurn);
        s.of("each CELL that lies on s COLUMNS lacks its WANT less the WIDTHS of these (as they are ahead of s) and s - 1 GAPS",
            WidthSentences::lack);
        s.of("if that is above 0 it is SHARED by the WEIGHTS of these", WidthSentences::sharedByTheirWeights);
        s.of("each COLUMN grows by the most that such a CELL shares to it", WidthSentences::mostShared);
        s.of("L and B are the WIDTHS for LEAST and for BEST (B at least L, COLUMN by COLUMN).", WidthSentences::bestAtLeastLeast);
        s.aside("SET to a total t:");
        s.of("t less C - 1 GAPS is left", WidthSentences::lessGaps);
        s.of("less than all of L: STATE.", WidthSentences::lessThanLeast);
        s.of("Up to all of B: L, and what is above all of L SHARED by B less L", WidthSentences::upToBest);
        s.of("(by WEIGHTS, if these are all 0)", WidthSentences::leastIsBest);
        s.of("above: B, and the rest SHARED by WEIGHTS.", WidthSentences::aboveBest);
        s.of("HEIGHTS of ROWS with WIDTHS: 1 at first", WidthSentences::oneAtFirst);
        s.of("for s = 1 to R: each CELL that lies on s ROWS has LINES (in the WIDTHS of its COLUMNS and the GAPS between them)",
            WidthSentences::rowsInTurn);
        s.of("what it lacks of the HEIGHTS of its ROWS (as they are ahead of s) comes to the last of these",
            WidthSentences::toTheLastRow);
        s.of("the most that such a CELL lacks", WidthSentences::mostLacked);
        s.of("HEIGHT of THE TABLE: the sum.", WidthSentences::sumOfHeights);
        s.of("TIGHT for a total t: of all WIDTHS with that total, none below L", WidthSentences::allWidths);
        s.of("the first (by COLUMNS, the lesser ahead) of those with the least HEIGHT", WidthSentences::firstOfLowest);
    }

    private static void columnsInTurn() {
        TableSetter x = of(2, 6, 3);
        naturals("without cells", x, 0, 0, 0, 0, 0, 0, 0);
        naturals("without cells", x, 1, 0, 0, 0, 0, 0, 0);
        x = of(2, 6, 0);
        lay(x, 0, 0, 0, 1, 6, 20);
        naturals("on all six columns", x, 0, 4, 4, 3, 3, 3, 3);
        put(x, 0, 1, 2, 17);
        naturals("one column comes ahead of six: 3 are lacked", x, 0, 1, 1, 18, 0, 0, 0);
        x = of(2, 2, 0);
        lay(x, 0, 0, 0, 1, 2, 10);
        put(x, 0, 1, 0, 6);
        naturals("one column comes ahead of two, whatever the numbers", x, 0, 8, 2);
    }

    private static void lack() {
        int[][] want = {{3, 0, 0, 0}, {4, 0, 0, 0}, {5, 1, 0, 0}, {7, 1, 1, 1}, {8, 2, 1, 1}};
        for (int[] w : want) {
            TableSetter x = of(1, 3, 2);
            lay(x, 0, 0, 0, 1, 3, w[0]);
            naturals(w[0] + " with two gaps of 2", x, 0, w[1], w[2], w[3]);
        }
        TableSetter x = of(2, 2, 1);
        put(x, 0, 0, 0, 4);
        put(x, 0, 0, 1, 4);
        lay(x, 0, 1, 0, 1, 2, 9);
        naturals("4, a gap, 4: nothing is lacked", x, 0, 4, 4);
        due("word", x.word(2, 0, 10), 9);
        naturals("one is lacked", x, 0, 5, 4);
        due("word", x.word(2, 0, 1), 10);
        naturals("less than none is lacked", x, 0, 4, 4);
        for (int first = 0; first <= 1; first++) {
            x = of(2, 3, 0);
            lay(x, 0, first, first, 1, 2, first == 0 ? 7 : 10);
            lay(x, 0, 1 - first, 1 - first, 1, 2, first == 0 ? 10 : 7);
            naturals("both on two columns: neither sees the other", x, 0, 4, 5, 5);
        }
    }

    private static void sharedByTheirWeights() {
        TableSetter x = of(1, 3, 0);
        due("weight", x.weight(2, 9), 1);
        lay(x, 0, 0, 0, 1, 2, 4);
        naturals("the third one's weight is no matter", x, 0, 2, 2, 0);
        due("weight", x.weight(1, 3), 1);
        naturals("1 and 3", x, 0, 1, 3, 0);
        due("word", x.word(0, 0, 1), 4);
        naturals("1 by 1 and 3", x, 0, 0, 1, 0);
        x = of(2, 2, 0);
        due("weight", x.weight(0, 9), 1);
        put(x, 0, 0, 1, 8);
        lay(x, 0, 1, 0, 1, 2, 8);
        naturals("nothing is lacked", x, 0, 0, 8);
        due("word", x.word(1, 0, 7), 8);
        naturals("less than nothing", x, 0, 0, 8);
    }

    private static void mostShared() {
        for (int first = 10; first <= 11; first++) {
            TableSetter x = of(2, 3, 0);
            due("weight", x.weight(0, 6), 1);
            due("weight", x.weight(1, 6), 1);
            due("weight", x.weight(2, 2), 1);
            lay(x, 0, 0, 0, 1, 3, first);
            lay(x, 0, 1, 0, 1, 3, 21 - first);
            naturals("4 4 2 and 5 5 1", x, 0, 5, 5, 2);
        }
        TableSetter x = of(3, 1, 0);
        put(x, 0, 0, 0, 3);
        put(x, 0, 1, 0, 9);
        put(x, 0, 2, 0, 5);
        naturals("the most, not the sum", x, 0, 9);
    }

    private static void bestAtLeastLeast() {
        TableSetter x = of(2, 2, 0);
        put(x, 0, 0, 0, 3, 3, 3);
        lay(x, 0, 1, 0, 1, 2, 12);
        naturals("12 less 3", x, 0, 8, 4);
        naturals("12 less 11, but no less than least", x, 1, 12, 4);
        due("set to all of B", x.set(16), 2);
        widths("B", x, 12, 4);
        due("set to one above", x.set(17), 2);
        widths("B and one", x, 13, 4);
        x = of(2, 2, 0);
        put(x, 0, 0, 1, 3, 3, 3);
        lay(x, 0, 1, 0, 1, 2, 12);
        naturals("12 less 3", x, 0, 5, 7);
        naturals("12 less 11, but the first no less than least", x, 1, 5, 11);
    }

    private static void lessGaps() {
        TableSetter x = of(1, 3, 2);
        due("less than the gaps", x.set(3), -4);
        due("as the gaps", x.set(4), 1);
        widths("nothing is left", x, 0, 0, 0);
        due("one above the gaps", x.set(5), 1);
        widths("one is left", x, 1, 0, 0);
        due("table", x.table(1, 1, 3), 1);
        due("one column: none", x.set(0), 1);
        due("one column: all is left", x.set(1), 1);
        widths("one column", x, 1);
    }

    private static void lessThanLeast() {
        TableSetter x = of(1, 2, 1);
        put(x, 0, 0, 0, 5);
        put(x, 0, 0, 1, 3);
        due("one less", x.set(8), -4);
        widths("as they were", x, 0, 0);
        due("all of L", x.set(9), 1);
        widths("L", x, 5, 3);
        due("one less, again", x.set(8), -4);
        widths("as they were", x, 5, 3);
        due("nothing at all", x.set(0), -4);
    }

    private static TableSetter fourSixFive() {
        TableSetter x = of(2, 3, 1);
        put(x, 0, 0, 0, 4, 4, 4);
        put(x, 0, 0, 1, 6, 2);
        put(x, 0, 1, 2, 5);
        due("weight", x.weight(0, 2), 1);
        naturals("L", x, 0, 4, 6, 5);
        naturals("B", x, 1, 14, 9, 5);
        return x;
    }

    private static void upToBest() {
        TableSetter x = fourSixFive();
        due("all of L", x.set(17), 4);
        widths("L", x, 4, 6, 5);
        due("one above all of L", x.set(18), 4);
        widths("1 by 10, 3, 0", x, 5, 6, 5);
        due("7 above all of L", x.set(24), 3);
        widths("7 by 10, 3, 0", x, 9, 8, 5);
        due("one below all of B", x.set(29), 3);
        widths("12 by 10, 3, 0: 9.23, 2.77", x, 13, 9, 5);
        due("all of B", x.set(30), 2);
        widths("B", x, 14, 9, 5);
        x = of(2, 3, 0);
        due("weight", x.weight(0, 9), 1);
        put(x, 2, 0, 1);
        due("fix", x.fix(0, 4), 1);
        lay(x, 0, 1, 1, 1, 2, 1, 3);
        due("all of L", x.set(4), 3);
        widths("L", x, 0, 4, 0);
        due("all of B, which is one above", x.set(5), 2);
        widths("B, whatever the weights", x, 0, 5, 0);
        due("one above B", x.set(6), 2);
        widths("by weights", x, 1, 5, 0);
    }

    private static void leastIsBest() {
        TableSetter x = of(1, 2, 0);
        due("weight", x.weight(1, 9), 1);
        put(x, 0, 0, 0, 5);
        put(x, 0, 0, 1, 3);
        due("all of L, which is all of B", x.set(8), 1);
        widths("nothing is to be shared", x, 5, 3);
        due("one less", x.set(7), -4);
        due("one above", x.set(9), 1);
        widths("by weights", x, 5, 4);
        x = of(1, 2, 0);
        due("L and B are 0", x.set(0), 1);
        widths("nothing", x, 0, 0);
    }

    private static void aboveBest() {
        TableSetter x = fourSixFive();
        due("one above all of B", x.set(31), 2);
        widths("1 by 2, 1, 1", x, 15, 9, 5);
        due("two above", x.set(32), 2);
        widths("2 by 2, 1, 1: the rest to the first", x, 15, 10, 5);
        due("four above", x.set(34), 2);
        widths("4 by 2, 1, 1", x, 16, 10, 6);
        due("the most there is", x.set(400), 2);
        widths("370 by 2, 1, 1: 185, 92.5, 92.5", x, 199, 102, 97);
        due("weight", x.weight(1, 9), 1);
        due("one above all of B", x.set(31), 2);
        widths("1 by 2, 9, 1", x, 14, 10, 5);
        x = of(1, 6, 3);
        due("the most there is, on six", x.set(400), 1);
        widths("385 by six", x, 65, 64, 64, 64, 64, 64);
    }

    private static void oneAtFirst() {
        heights("without cells", of(16, 1, 0), 1, 1, 1, 1, 1, 1, 1, 1, 1, 1, 1, 1, 1, 1, 1, 1);
        TableSetter x = of(3, 1, 0);
        put(x, 0, 0, 0);
        put(x, 0, 1, 0, 1);
        put(x, 0, 2, 0, 1, 1);
        heights("no lines, one, two", x, 1, 1, 2);
        heights("one piece of 20 in a width of 0", text(20), 20);
        x = of(1, 1, 0);
        put(x, 2, 0, 0, 10);
        due("fix", x.fix(0, 4), 1);
        due("a fixed one that is narrower than its text: 4, 4, 2", x.set(4), 3);
        heights("its lines count", x, 3);
    }

    /** Widths of 3 and 4, and under them a cell over both of two pieces of 4 letters. */
    private static TableSetter overBoth(int gap) {
        TableSetter x = of(2, 2, gap);
        put(x, 2, 0, 0);
        put(x, 2, 0, 1);
        due("fix", x.fix(0, 3), 1);
        due("fix", x.fix(1, 4), 1);
        due("set", x.set(7 + gap), 2);
        lay(x, 0, 1, 0, 1, 2, 4, 4);
        return x;
    }

    private static void rowsInTurn() {
        heights("3, a gap of 2, 4: one line of 9", overBoth(2), 1, 1);
        heights("3, a gap of 1, 4: two lines", overBoth(1), 1, 2);
        TableSetter x = of(2, 2, 0);
        lay(x, 0, 0, 0, 2, 1, 1, 1, 1, 1);
        put(x, 0, 0, 1, 1, 1, 1);
        heights("one row comes ahead of two, whatever the numbers", x, 3, 1);
        x = of(16, 1, 0);
        lay(x, 0, 0, 0, 16, 1, alike(12, 20));
        heights("240 on all rows", x, 1, 1, 1, 1, 1, 1, 1, 1, 1, 1, 1, 1, 1, 1, 1, 225);
    }

    private static void toTheLastRow() {
        TableSetter x = of(3, 1, 0);
        lay(x, 0, 0, 0, 3, 1, 1, 1, 1, 1, 1, 1);
        heights("6 on 3: 3 to the last", x, 1, 1, 4);
        due("words", x.words(0, 4), 4);
        heights("4 on 3: 1 to the last", x, 1, 1, 2);
        due("words", x.words(0, 3), 3);
        heights("3 on 3: nothing is lacked", x, 1, 1, 1);
        due("words", x.words(0, 2), 2);
        heights("2 on 3: less than nothing", x, 1, 1, 1);
        x = of(3, 2, 0);
        lay(x, 0, 0, 0, 2, 1, 1, 1, 1, 1, 1);
        lay(x, 0, 1, 1, 2, 1, 1, 1, 1, 1);
        heights("5 and 4 on two rows: neither sees the other", x, 1, 4, 3);
        x = of(3, 3, 0);
        put(x, 0, 1, 2, 1, 1);
        lay(x, 0, 0, 0, 2, 1, 1, 1, 1, 1);
        lay(x, 0, 0, 1, 3, 1, 1, 1, 1, 1, 1, 1);
        heights("one, two, three rows: 2, then 1 more, then 2 more", x, 1, 3, 2);
    }

    private static void mostLacked() {
        TableSetter x = of(2, 3, 0);
        lay(x, 0, 0, 0, 2, 1, 1, 1, 1);
        lay(x, 0, 0, 1, 2, 1, 1, 1, 1, 1, 1);
        lay(x, 0, 0, 2, 2, 1, 1, 1, 1, 1);
        heights("1, 3 and 2 are lacked", x, 1, 4);
        x = of(1, 3, 0);
        put(x, 0, 0, 0, 1, 1, 1, 1);
        put(x, 0, 0, 1);
        put(x, 0, 0, 2, 1, 1);
        heights("4, none and 2 lines", x, 4);
    }

    private static void sumOfHeights() {
        TableSetter x = rowsOf(3, 1, 12, 2);
        due("3 + 1 + 12 + 2", x.count(6), 18);
        due("told by set, too", x.set(1), 18);
        due("told by tight, too", x.tight(1, 1), 18);
        due("one row", of(1, 1, 0).count(6), 1);
        due("rows without cells", of(16, 6, 3).count(6), 16);
        x = of(16, 1, 0);
        for (int row = 0; row < 16; row++) {
            put(x, 0, row, 0, alike(12, 20));
        }
        due("sixteen rows of 240", x.count(6), 3840);
    }

    private static void allWidths() {
        TableSetter x = of(2, 2, 2);
        put(x, 2, 0, 0);
        due("fix", x.fix(0, 10), 1);
        put(x, 0, 1, 1, 3, 3, 3, 3);
        due("less than all of L", x.tight(14, 20000), -4);
        due("all of L", x.tight(15, 20000), 5);
        widths("the first is not below 10", x, 10, 3);
        due("one way", x.tries(), 1);
        due("four more", x.tight(19, 20000), 3);
        widths("with that total: 10 + 2 + 7", x, 10, 7);
        due("five ways", x.tries(), 5);
        due("three more", x.tight(18, 20000), 5);
        widths("all the rest to the last", x, 10, 6);
        x = of(1, 2, 1);
        put(x, 0, 0, 0, 1, 1);
        put(x, 0, 0, 1, 1, 1);
        due("both want 3", x.tight(7, 20000), 1);
        widths("neither the first way nor the last", x, 3, 3);
        x = of(1, 3, 0);
        put(x, 0, 0, 0, 1, 1);
        put(x, 0, 0, 2, 2);
        due("the first wants 3", x.tight(5, 20000), 1);
        widths("the last of six ways, the last column not below 2", x, 3, 0, 2);
        due("six ways", x.tries(), 6);
        x = of(1, 1, 3);
        put(x, 0, 0, 0, 5, 5);
        due("one column", x.tight(400, 1), 1);
        widths("all of it", x, 400);
    }

    private static void firstOfLowest() {
        TableSetter x = of(1, 3, 0);
        due("all are alike", x.tight(5, 20000), 1);
        widths("the lesser ahead", x, 0, 0, 5);
        put(x, 0, 0, 0, 1, 1);
        due("the first wants 3", x.tight(5, 20000), 1);
        widths("then the second as little as it may", x, 3, 0, 2);
        x = of(1, 3, 0);
        put(x, 0, 0, 1, 1, 1);
        due("the second wants 3", x.tight(5, 20000), 1);
        widths("the first as little as it may", x, 0, 3, 2);
        x = of(1, 2, 0);
        put(x, 0, 0, 0, 2, 2, 2, 2);
        put(x, 0, 0, 1, 2, 2, 2, 2);
        due("two lines each want 5", x.tight(10, 20000), 2);
        widths("the only way", x, 5, 5);
        due("one less", x.tight(9, 20000), 4);
        widths("four lines: the first of those", x, 2, 7);
    }
}
