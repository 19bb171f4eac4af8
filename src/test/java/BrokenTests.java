import java.io.ByteArrayOutputStream;
import java.io.IOException;
import java.io.InputStream;
import java.io.OutputStream;
import java.io.StringWriter;
import java.lang.reflect.Method;
import java.net.URI;
import java.nio.file.Files;
import java.nio.file.Path;
import java.util.ArrayList;
import java.util.HashMap;
import java.util.HashSet;
import java.util.List;
import java.util.Map;
import java.util.Set;
import java.util.concurrent.ExecutorService;
import java.util.concurrent.Executors;
import java.util.concurrent.Future;
import java.util.concurrent.TimeUnit;
import java.util.concurrent.TimeoutException;
import java.util.regex.Matcher;
import java.util.regex.Pattern;
import javax.tools.FileObject;
import javax.tools.ForwardingJavaFileManager;
import javax.tools.JavaCompiler;
import javax.tools.JavaFileManager;
import javax.tools.JavaFileObject;
import javax.tools.SimpleJavaFileObject;
import javax.tools.ToolProvider;

/** Breaks each sentence of the document in the program, and sees that the sentence's own test finds it. */
public final class BrokenTests {
    private static final Path PROGRAM = Path.of("src/main/java/TableSetter.java");
    private static final Path BREAKS = Path.of("src/test/breaks.txt");
    private static final int SECONDS = 60;
    private static final JavaCompiler COMPILER = ToolProvider.getSystemJavaCompiler();
    /** The library's classes are looked up once for each worker. */
    private static final ThreadLocal<JavaFileManager> LIBRARY =
        ThreadLocal.withInitial(() -> COMPILER.getStandardFileManager(null, null, null));

    private BrokenTests() {
    }

    /** One way to break a sentence: these words of the program, or of one of its methods, stand for those. */
    private record Break(String sentence, String method, String words, String instead) {
        /** The program that is broken so; null, if the words do not stand there just once. */
        String applied(String program) {
            int from = 0;
            int end = program.length();
            if (!method.isEmpty()) {
                Matcher head = Pattern.compile("(?m)^( +)[\\w ]* " + method + "\\([^;{]*\\) \\{\\n").matcher(program);
                if (!head.find()) {
                    return null;
                }
                from = head.end();
                end = program.indexOf("\n" + head.group(1) + "}\n", from - 1);
                if (head.find()) {
                    return null;
                }
            }
            Matcher m = Pattern.compile(pattern()).matcher(program).region(from, end);
            if (!m.find()) {
                return null;
            }
            String broken = program.substring(0, m.start()) + instead.replace("\\n", "\n") + program.substring(m.end());
            return m.find() ? null : broken;
        }

        /** A "\n" among the words stands for a new line and its indentation. */
        private String pattern() {
            StringBuilder pattern = new StringBuilder();
            for (String line : words.split("\\\\n")) {
                pattern.append(pattern.length() == 0 ? "" : "\\n *").append(Pattern.quote(line));
            }
            return pattern.toString();
        }
    }

    private static List<Break> breaks() throws IOException {
        List<Break> breaks = new ArrayList<>();
        String sentence = "";
        String method = "";
        String words = "";
        for (String line : Files.readAllLines(BREAKS)) {
            if (line.startsWith("- ")) {
                Matcher scoped = Pattern.compile("- (?:@(\\w+) )?(.*)").matcher(line);
                method = scoped.matches() && scoped.group(1) != null ? scoped.group(1) : "";
                words = scoped.group(2);
            } else if (line.startsWith("+")) {
                breaks.add(new Break(sentence, method, words, line.substring(1).strip()));
            } else if (!line.isBlank() && !line.startsWith("#")) {
                sentence = line.strip();
            }
        }
        return breaks;
    }

    private static final class Source extends SimpleJavaFileObject {
        private final String text;

        Source(String theText) {
            super(URI.create("string:///TableSetter.java"), Kind.SOURCE);
            text = theText;
        }

        @Override
        public CharSequence getCharContent(boolean ignoreEncodingErrors) {
            return text;
        }
    }

    private static final class Made extends SimpleJavaFileObject {
        final ByteArrayOutputStream bytes = new ByteArrayOutputStream();

        Made(String name) {
            super(URI.create("mem:///" + name + ".class"), Kind.CLASS);
        }

        @Override
        public OutputStream openOutputStream() {
            return bytes;
        }
    }

    private static final class Memory extends ForwardingJavaFileManager<JavaFileManager> {
        final Map<String, Made> made = new HashMap<>();

        Memory(JavaFileManager files) {
            super(files);
        }

        @Override
        public JavaFileObject getJavaFileForOutput(Location location, String name, JavaFileObject.Kind kind, FileObject beside) {
            return made.computeIfAbsent(name, Made::new);
        }
    }

    /** The tests once more, with a TableSetter that is broken: all of their own, so that they share nothing. */
    private static final class Apart extends ClassLoader {
        private final Map<String, Made> broken;

        Apart(Map<String, Made> theBroken) {
            super(ClassLoader.getPlatformClassLoader());
            broken = theBroken;
        }

        @Override
        protected Class<?> findClass(String name) throws ClassNotFoundException {
            try (InputStream in = BrokenTests.class.getResourceAsStream("/" + name + ".class")) {
                byte[] bytes = broken.containsKey(name) ? broken.get(name).bytes.toByteArray() : in.readAllBytes();
                return defineClass(name, bytes, 0, bytes.length);
            } catch (IOException unread) {
                throw new ClassNotFoundException(name, unread);
            }
        }
    }

    /** The classes of a program; null, if it does not compile. */
    private static Map<String, Made> compiled(String program) {
        Memory memory = new Memory(LIBRARY.get());
        StringWriter said = new StringWriter();
        List<String> options = List.of("-proc:none", "-nowarn");
        if (!COMPILER.getTask(said, memory, null, options, null, List.of(new Source(program))).call()) {
            System.out.println(said);
            return null;
        }
        return memory.made;
    }

    /** How many answers the sentence's test finds wrong with these classes. */
    private static int wrongIn(String sentence, Map<String, Made> made) throws Exception {
        Method test = new Apart(made).loadClass("Sentences").getDeclaredMethod("wrongIn", String.class);
        test.setAccessible(true);
        return (int) test.invoke(null, sentence);
    }

    /** How many answers it finds wrong in the program that is broken so; below 0: it can't be told. */
    private static int wrongIn(Break b, String program) throws Exception {
        String broken = b.applied(program);
        if (broken == null) {
            return -2;
        }
        Map<String, Made> made = compiled(broken);
        return made == null ? -3 : wrongIn(b.sentence(), made);
    }

    private static int answered(Future<Integer> answer) throws Exception {
        try {
            return answer.get(SECONDS, TimeUnit.SECONDS);
        } catch (TimeoutException late) {
            return -4;
        }
    }

    private static void run(List<Break> breaks, String program) throws Exception {
        ExecutorService workers = Executors.newFixedThreadPool(Math.max(2, Runtime.getRuntime().availableProcessors()), work -> {
            Thread worker = new Thread(work);
            worker.setDaemon(true);
            return worker;
        });
        List<Future<Integer>> answers = new ArrayList<>();
        for (Break b : breaks) {
            answers.add(workers.submit(() -> wrongIn(b, program)));
        }
        for (int i = 0; i < breaks.size(); i++) {
            Break b = breaks.get(i);
            int wrong = answered(answers.get(i));
            String why = wrong == -1 ? " no such sentence" : wrong == -2 ? " the words do not stand there once"
                : wrong == -3 ? " it does not compile" : wrong == -4 ? " it does not end" : " nothing is found";
            Due.due(b.sentence() + "\n  broken by: " + b.method() + " " + b.words() + " -> " + b.instead() + "\n " + why, wrong > 0 ? 1 : 0, 1);
        }
        workers.shutdownNow();
    }

    /** Each sentence has a break, and its test finds nothing where nothing is broken. */
    private static void eachHasOne(List<Break> breaks, String program) throws Exception {
        Set<String> named = new HashSet<>();
        for (Break b : breaks) {
            named.add(b.sentence());
        }
        Map<String, Made> made = compiled(program);
        for (Sentences.Sentence sentence : Sentences.ofTheDocument().tested) {
            Due.due("a break for: " + sentence.name(), named.contains(sentence.name()) ? 1 : 0, 1);
            Due.due("not broken: " + sentence.name(), wrongIn(sentence.name(), made), 0);
        }
    }

    public static void main(String[] args) throws Exception {
        List<Break> breaks = breaks();
        String program = Files.readString(PROGRAM);
        eachHasOne(breaks, program);
        run(breaks, program);
        System.out.println(breaks.size() + " breaks");
        Due.end();
    }
}
