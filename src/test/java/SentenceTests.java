import java.io.IOException;
import java.nio.file.Files;
import java.nio.file.Path;
import java.util.ArrayList;
import java.util.HashMap;
import java.util.HashSet;
import java.util.List;
import java.util.Map;
import java.util.Set;

/** Runs the test of each sentence of the document, and sees that no sentence is without one. */
public final class SentenceTests {
    private static final Path DOCUMENT = Path.of("../shared/DOC.md");
    /** Words that stand between quoted sentences and bind nothing. */
    private static final Set<String> BETWEEN = Set.of("and");

    private SentenceTests() {
    }

    /** The document's sections by their short names, without the calls' signatures and signs of layout. */
    private static Map<String, String> sections() throws IOException {
        Map<String, String> sections = new HashMap<>();
        String name = "";
        for (String line : Files.readAllLines(DOCUMENT)) {
            if (line.startsWith("## ")) {
                name = line.substring(3).replaceAll("(Promise \\d+): .*", "$1");
            } else if (!line.startsWith("```") && !line.startsWith("# ")) {
                sections.merge(name, line.replaceAll("^`[^`]*`:", "").strip() + " ", String::concat);
            }
        }
        return sections;
    }

    private static boolean binds(String section) {
        return section.startsWith("Promise ") || section.equals("Terms");
    }

    /** What no test quotes must be layout: "======== 1", "FINDINGS:", the interface's headings. */
    private static List<String> leftOf(String text, String section, Sentences sentences) {
        StringBuilder left = new StringBuilder(text);
        List<Sentences.Sentence> quotes = new ArrayList<>(sentences.tested);
        quotes.addAll(sentences.asides);
        for (Sentences.Sentence sentence : quotes) {
            if (!sentence.section().equals(section)) {
                continue;
            }
            int at = text.indexOf(sentence.quote());
            Due.due("the document says, " + sentence.name(), at >= 0 ? 1 : 0, 1);
            for (int i = 0; at >= 0 && i < sentence.quote().length(); i++) {
                left.setCharAt(at + i, ' ');
            }
        }
        String bare = left.toString().replaceAll("={8} \\d|Ahead of the calls .*? the interface says: ---- [^.]*\\.", " ");
        List<String> words = new ArrayList<>();
        for (String word : bare.split("[\\s,;:.()]+")) {
            if (!word.isEmpty() && !BETWEEN.contains(word)) {
                words.add(word);
            }
        }
        return words;
    }

    private static void noneIsLeftOut(Sentences sentences) throws IOException {
        Map<String, String> sections = sections();
        int promises = 0;
        for (Map.Entry<String, String> section : sections.entrySet()) {
            if (binds(section.getKey())) {
                promises += section.getKey().equals("Terms") ? 0 : 1;
                List<String> left = leftOf(section.getValue(), section.getKey(), sentences);
                Due.due(section.getKey() + ", words without a test: " + left, left.size(), 0);
            }
        }
        Due.due("promises", promises, 32);
        Set<String> names = new HashSet<>();
        for (Sentences.Sentence sentence : sentences.tested) {
            Due.due("one test of that name: " + sentence.name(), names.add(sentence.name()) ? 1 : 0, 1);
        }
    }

    public static void main(String[] args) throws IOException {
        Sentences sentences = Sentences.ofTheDocument();
        for (Sentences.Sentence sentence : sentences.tested) {
            if (Due.wrongIn(sentence.test()) > 0) {
                System.out.println("FAILED: " + sentence.name());
            }
        }
        noneIsLeftOut(sentences);
        System.out.println(sentences.tested.size() + " sentences");
        Due.end();
    }
}
