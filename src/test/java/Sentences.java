import java.util.ArrayList;
import java.util.List;

/** The sentences of ../shared/DOC.md, each with a test of its own. */
final class Sentences {
    record Sentence(String section, String quote, Runnable test) {
        String name() {
            return section + " | " + quote;
        }
    }

    final List<Sentence> tested = new ArrayList<>();
    /** Words of the document that say nothing a test of their own could find broken. */
    final List<Sentence> asides = new ArrayList<>();
    private String section = "";

    static Sentences ofTheDocument() {
        Sentences s = new Sentences();
        RefusedSentences.tell(s);
        TableSentences.tell(s);
        WidthSentences.tell(s);
        PageSentences.tell(s);
        CellCallSentences.tell(s);
        WidthCallSentences.tell(s);
        PageCallSentences.tell(s);
        ToldSentences.tell(s);
        return s;
    }

    /** How many answers the test of that name sees that are not due; below 0: there is no such test. */
    static int wrongIn(String name) {
        Due.hush();
        Runnable test = ofTheDocument().test(name);
        return test == null ? -1 : Due.wrongIn(test);
    }

    void in(String newSection) {
        section = newSection;
    }

    void of(String quote, Runnable test) {
        tested.add(new Sentence(section, quote, test));
    }

    void aside(String quote) {
        asides.add(new Sentence(section, quote, null));
    }

    /** The test of that name; null: there is none. */
    Runnable test(String name) {
        for (Sentence sentence : tested) {
            if (sentence.name().equals(name)) {
                return sentence.test();
            }
        }
        return null;
    }
}
