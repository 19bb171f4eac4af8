import java.io.IOException;
import java.lang.reflect.Field;
import java.lang.reflect.Method;
import java.lang.reflect.Modifier;
import java.nio.charset.StandardCharsets;
import java.nio.file.Files;
import java.nio.file.LinkOption;
import java.nio.file.Path;
import java.util.ArrayList;
import java.util.Arrays;
import java.util.List;
import java.util.Set;
import java.util.TreeSet;
import java.util.regex.Matcher;
import java.util.regex.Pattern;
import java.util.stream.Stream;

/** README.md holds: its example answers as it says, its commands run, its table tells of each call. */
public final class ReadmeTests {
    private static final Path README = Path.of("README.md");
    /** Beside each other as the checkout and ../shared are, so that the commands find what they name. */
    private static final Path PLACE = Path.of("build/readme");

    private final String text;
    private final Path checkout = PLACE.resolve("checkout");

    private ReadmeTests(String theText) {
        text = theText;
    }

    private static void due(String what, boolean fine) {
        Due.due("README.md: " + what, fine ? 1 : 0, 1);
    }

    private List<String> blocks(String language) {
        List<String> blocks = new ArrayList<>();
        Matcher m = Pattern.compile("(?m)^```" + language + "\\n((?:(?!```).*\\n)*)```$").matcher(text);
        while (m.find()) {
            blocks.add(m.group(1));
        }
        return blocks;
    }

    /** Each call of the example, one after the other, answers the number that stands behind it. */
    private void exampleAnswers(String example) {
        Pattern told = Pattern.compile("x\\.(\\w+)\\(([-\\d, ]*)\\); +// (-?\\d+)(: .*)?");
        TableSetter x = new TableSetter();
        Set<String> kinds = new TreeSet<>();
        int calls = 0;
        for (String line : example.split("\n")) {
            if (!line.strip().startsWith("x.")) {
                continue;
            }
            Matcher m = told.matcher(line.strip());
            due("an answer stands behind " + line.strip(), m.matches());
            if (m.matches()) {
                int[] numbers = numbersOf(m.group(2));
                long want = Long.parseLong(m.group(3));
                Due.due("README.md: " + line.strip(), Calls.on(x, Calls.numbered(m.group(1)), numbers), want);
                kinds.add(want < 0 ? "refused or none" : "answered");
                calls++;
            }
        }
        due("the example has calls, some refused", calls > 20 && kinds.size() == 2);
    }

    private static int[] numbersOf(String list) {
        return list.isEmpty() ? new int[0] : Arrays.stream(list.split(", ")).mapToInt(Integer::parseInt).toArray();
    }

    private void makePlace(String example) throws IOException {
        clear(PLACE);
        Files.createDirectories(checkout);
        Files.createSymbolicLink(PLACE.resolve("shared"), Path.of("../shared").toRealPath());
        Files.createSymbolicLink(checkout.resolve("src"), Path.of("src").toRealPath());
        Files.writeString(checkout.resolve("Example.java"), example);
    }

    private static void clear(Path place) throws IOException {
        if (Files.isDirectory(place, LinkOption.NOFOLLOW_LINKS)) {
            try (Stream<Path> inside = Files.list(place)) {
                for (Path one : inside.toList()) {
                    clear(one);
                }
            }
        }
        Files.deleteIfExists(place);
    }

    /** What the commands print; they end without a failure. */
    private String run(String commands) throws IOException, InterruptedException {
        Process process = new ProcessBuilder("bash", "-e", "-c", commands)
            .directory(checkout.toFile()).redirectErrorStream(true).start();
        String printed = new String(process.getInputStream().readAllBytes(), StandardCharsets.UTF_8);
        Due.due("README.md: these fail: " + commands + printed, process.waitFor(), 0);
        return printed;
    }

    private void commandsRun() throws IOException, InterruptedException {
        List<String> examples = blocks("java");
        List<String> commands = blocks("sh");
        List<String> prints = blocks("text");
        due("one example, what it prints, commands for it, for a test and for a shared test",
            examples.size() == 1 && prints.size() == 1 && commands.size() == 3);
        exampleAnswers(examples.get(0));
        makePlace(examples.get(0));
        String printed = run(commands.get(0));
        due("the example prints as told, not " + printed, printed.equals(prints.get(0)));
        due("a test runs alone", run(commands.get(1)).contains(" 0 not as due"));
        due("a shared test runs alone", run(commands.get(2)).contains("all answers are as due"));
        due("all tests at once", text.contains("\n    .ci/run\n") && Files.isExecutable(Path.of(".ci/run")));
    }

    /** The table's rows are the face's calls with as many numbers, and all by which they are refused. */
    private void tableTellsOfEachCall() {
        List<String> told = new ArrayList<>();
        Matcher m = Pattern.compile("(?m)^\\| `(\\w+)\\(([^)]*)\\)` \\| (.+) \\|([^|]*)\\|$").matcher(text);
        while (m.find()) {
            int numbers = m.group(2).isEmpty() ? 0 : m.group(2).split(", ").length;
            told.add(m.group(1) + " of " + numbers);
            String refused = m.group(4).strip();
            Set<String> names = new TreeSet<>(refused.isEmpty() ? List.of() : List.of(refused.split(", ")));
            due(m.group(1) + " is refused with " + Refusals.namesOf(m.group(1)), names.equals(Refusals.namesOf(m.group(1))));
        }
        List<String> face = new ArrayList<>();
        for (String name : Calls.NAMES) {
            for (Method method : TableSetter.class.getDeclaredMethods()) {
                if (method.getName().equals(name) && Modifier.isPublic(method.getModifiers())) {
                    face.add(name + " of " + method.getParameterCount());
                }
            }
        }
        due("its table tells of " + face + ", not " + told, told.equals(face));
    }

    private void constantsAreTold() throws IllegalAccessException {
        int n = 0;
        for (Field f : TableSetter.class.getFields()) {
            due("what " + f.getName() + " is", text.contains("`" + f.getName() + "` (" + f.getInt(null) + ")"));
            n++;
        }
        Due.due("constants", n, 6);
        String[] findings = {"NOTHING", "BEYOND", "UNLIKE", "NOUGHT", "SIZE", "CLASH"};
        for (int f = 1; f <= findings.length; f++) {
            due("finding " + f, text.contains(" " + f + " `" + findings[f - 1] + "`"));
        }
    }

    /** Each test is told of, and none that there is not. */
    private void testsAreTold() throws IOException {
        Set<String> there = new TreeSet<>();
        try (Stream<Path> files = Files.list(Path.of("src/test/java"))) {
            for (Path file : files.toList()) {
                String name = file.getFileName().toString();
                if (name.endsWith("Tests.java")) {
                    there.add(name.substring(0, name.length() - ".java".length()));
                }
            }
        }
        Set<String> told = new TreeSet<>();
        Matcher m = Pattern.compile("(?m)^- `(\\w+Tests)`: ").matcher(text);
        while (m.find()) {
            told.add(m.group(1));
        }
        due("its tests are " + there + ", not " + told, told.equals(there));
    }

    public static void main(String[] args) throws Exception {
        ReadmeTests tests = new ReadmeTests(Files.readString(README));
        tests.commandsRun();
        tests.tableTellsOfEachCall();
        tests.constantsAreTold();
        tests.testsAreTold();
        Due.end();
    }
}
