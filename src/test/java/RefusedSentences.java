/** Terms: what is refused, in which order, and that it changes nothing. */
final class RefusedSentences extends Tables {
    private RefusedSentences() {
    }

    static void tell(Sentences s) {
        s.in("Terms");
        s.of("Refused is, the first of these that fits, in this order", RefusedSentences::order);
        s.of("BAD -1 (a number that is none, or not as told)", RefusedSentences::bad);
        s.of("FULL -2", RefusedSentences::fullTable);
        s.of("STATE -4 (not now)", RefusedSentences::state);
        s.of("SPENT -6 (more tries than told)", RefusedSentences::spent);
        s.of("FINDING -3 (finding() tells which)", RefusedSentences::findingTells);
        s.aside("unless a call says so otherwise");
        s.of("NONE -9", RefusedSentences::none);
        s.of("What is refused changes nothing but finding(), findings().", Refusals::all);
        s.aside("FINDINGS:");
        s.of("1 NOTHING (a CELL that is taken away)", RefusedSentences::nothing);
        s.of("2 BEYOND (a place that there is not)", RefusedSentences::beyond);
        s.of("3 UNLIKE (of another KIND)", RefusedSentences::unlike);
        s.of("4 NOUGHT (shared among none)", RefusedSentences::nought);
        s.of("5 SIZE (fewer than none)", RefusedSentences::size);
        s.of("6 CLASH", RefusedSentences::clash);
    }

    private static void order() {
        Twins.bad("BAD ahead of FULL", Tables::full, x -> x.cell(4, 15, 5, 1, 1));
        Twins.bad("BAD ahead of FULL, rows", Tables::full, x -> x.cell(0, 15, 5, 0, 1));
        Twins.bad("BAD ahead of STATE, a total", Tables::rich, x -> x.set(-1));
        Twins.bad("BAD ahead of STATE, tries", Tables::rich, x -> x.tight(14, 0));
        Twins.bad("BAD ahead of STATE, too many tries", Tables::rich, x -> x.tight(14, 20001));
        Twins.bad("BAD ahead of SPENT", Tables::rich, x -> x.tight(400, 0));
        Twins.bad("BAD ahead of BEYOND", Tables::rich, x -> x.cell(4, 5, 2, 2, 1));
        Twins.bad("BAD ahead of CLASH", Tables::rich, x -> x.cell(4, 4, 0, 1, 1));
        Twins.bad("BAD ahead of NOTHING: told", Tables::rich, x -> x.told(4, 7));
        Twins.bad("BAD ahead of NOTHING: is", Tables::rich, x -> x.is(4, 4));
        Twins.bad("BAD ahead of NOTHING: words", Tables::rich, x -> x.words(4, 13));
        Twins.bad("BAD ahead of NOTHING: word", Tables::rich, x -> x.word(4, 0, 21));
        Twins.bad("BAD ahead of NOTHING: copy from", Tables::rich, x -> x.copy(4, 0, 6, 0, 1));
        Twins.bad("BAD ahead of NOTHING: copy to", Tables::rich, x -> x.copy(6, 0, 4, 0, 1));
        Twins.bad("BAD ahead of NOTHING: calls", Tables::rich, x -> x.calls(4, 1024));
        Twins.bad("BAD ahead of NOTHING: fix", Tables::rich, x -> x.fix(4, 61));
        Twins.bad("BAD ahead of NOTHING: lines", Tables::rich, x -> x.lines(4, 0));
        Twins.bad("BAD ahead of NOTHING: want", Tables::rich, x -> x.want(4, 2));
        Twins.bad("BAD ahead of UNLIKE", Tables::rich, x -> x.fix(1, 0));
        Twins.bad("BAD ahead of BEYOND: word", Tables::rich, x -> x.word(1, 3, 0));
        Twins.bad("BAD ahead of BEYOND: copy", Tables::rich, x -> x.copy(1, -1, 6, 0, 1));
        Twins.bad("BAD ahead of SIZE", Tables::rich, x -> x.words(6, -1));
        Twins.refused("FULL ahead of BEYOND", Tables::full, FULL, x -> x.cell(0, 15, 5, 2, 1));
        Twins.refused("FULL ahead of CLASH", Tables::full, FULL, x -> x.cell(0, 0, 0, 1, 1));
        Twins.refused("STATE ahead of SPENT", Tables::rich, STATE, x -> x.tight(14, 1));
        Twins.found("BEYOND ahead of CLASH", Tables::rich, BEYOND, x -> x.cell(0, 1, 0, 6, 1));
        Twins.found("NOTHING ahead of SIZE", Tables::rich, NOTHING, x -> x.words(4, -1));
        Twins.found("NOTHING ahead of BEYOND: word", Tables::rich, NOTHING, x -> x.word(4, 12, 1));
        Twins.found("NOTHING ahead of BEYOND: copy from", Tables::rich, NOTHING, x -> x.copy(4, -1, 1, 0, 1));
        Twins.found("NOTHING ahead of BEYOND: copy to", Tables::rich, NOTHING, x -> x.copy(1, 0, 4, 0, -1));
        Twins.found("NOTHING ahead of NOUGHT", Tables::rich, NOTHING, x -> x.mean(4));
        Twins.found("NOTHING ahead of UNLIKE", Tables::rich, NOTHING, x -> x.fix(4, 1));
    }

    private static void bad() {
        due("BAD", TableSetter.BAD, -1);
        TableSetter x = of(1, 1, 0);
        due("no cells: 0 is none", x.told(0, 0), -1);
        due("a cell", x.cell(0, 0, 0, 1, 1), 0);
        due("0 is one", x.told(0, 0), 0);
        due("1 is none", x.told(1, 0), -1);
        due("-1 is none", x.told(-1, 0), -1);
        due("drop", x.drop(0), 1);
        due("one that is gone is no number that is none", x.told(0, 0), -3);
        due("table", x.table(1, 1, 0), 1);
        due("0 is none again", x.told(0, 0), -1);
        x = full();
        due("39 is one", x.told(39, 1), 6);
        due("40 is none", x.told(40, 1), -1);
    }

    private static void fullTable() {
        due("FULL", TableSetter.FULL, -2);
        Refusals.of("cell", FULL);
    }

    private static void state() {
        due("STATE", TableSetter.STATE, -4);
        TableSetter x = text(5);
        due("not now", x.set(4), -4);
        due("words", x.words(0, 1), 1);
        due("now", x.set(4), 1);
        Refusals.of("set", STATE);
        Refusals.of("tight", STATE);
    }

    private static void spent() {
        due("SPENT", TableSetter.SPENT, -6);
        TableSetter x = of(1, 2, 0);
        due("5 on 2 columns: 6 by 5", x.tight(5, 5), -6);
        due("6 by 6", x.tight(5, 6), 1);
        due("6 by 7", x.tight(5, 7), 1);
        Refusals.of("tight", SPENT);
    }

    private static void findingTells() {
        due("FINDING", TableSetter.FINDING, -3);
        TableSetter x = rich();
        due("clash and nought so far", x.finding(), NOUGHT);
        due("fix", x.fix(1, 5), -3);
        due("finding", x.finding(), UNLIKE);
        due("words", x.words(1, -1), -3);
        due("finding", x.finding(), SIZE);
        due("drop", x.drop(4), -3);
        due("finding", x.finding(), NOTHING);
    }

    private static void none() {
        due("NONE", TableSetter.NONE, -9);
        TableSetter x = new TableSetter();
        due("on", x.on(0, 0), -9);
        due("clash", x.clash(), -9);
        due("page", x.page(0, 0), -9);
        due("pageOf", x.pageOf(0), -9);
        due("a cell", x.cell(0, 0, 0, 1, 1), 0);
        due("words", x.words(0, 2), 2);
        due("pages of 1, of a row of 2", x.pages(1), -9);
        due("NONE is no finding", x.finding(), 0);
    }

    private static void nothing() {
        for (String call : new String[] {"drop", "told", "is", "words", "word", "copy", "mean", "calls", "fix", "lines",
            "want"}) {
            Refusals.ofFinding(call, 1);
        }
        TableSetter x = rich();
        due("one that is there", x.drop(5), 1);
        due("once only", x.drop(5), -3);
        due("finding", x.finding(), 1);
    }

    private static void beyond() {
        for (String call : new String[] {"cell", "word", "copy"}) {
            Refusals.ofFinding(call, 2);
        }
        TableSetter x = rich();
        due("the last place there is", x.word(1, 2, 3), 1);
        due("the first there is", x.word(1, 0, 3), 1);
    }

    private static void unlike() {
        Refusals.ofFinding("fix", 3);
        due("a fixed one", rich().fix(2, 9), 7);
    }

    private static void nought() {
        Refusals.ofFinding("mean", 4);
        TableSetter x = rich();
        due("words", x.words(5, 1), 1);
        due("shared among one", x.mean(5), 1);
    }

    private static void size() {
        Refusals.ofFinding("words", 5);
        due("none", rich().words(1, 0), 0);
    }

    private static void clash() {
        Refusals.ofFinding("cell", 6);
        due("a free place", rich().cell(0, 4, 2, 1, 1), 6);
    }
}
