import java.io.IOException;
import java.lang.reflect.Constructor;
import java.lang.reflect.Method;
import java.lang.reflect.Modifier;
import java.nio.file.Files;
import java.nio.file.Path;
import java.util.ArrayList;
import java.util.List;
import java.util.Set;
import java.util.TreeSet;

/** The program keeps to ../shared/LANGUAGE.md, and what would not is told; no call makes an object. */
public final class LanguageTests {
    private static final Path PROGRAM = Path.of("src/main/java/TableSetter.java");
    private static final List<String> FACE = List.of("table(int,int,int):int", "weight(int,int):int",
        "note(int,int):int", "cell(int,int,int,int,int):int", "clash():int", "drop(int):int", "told(int,int):int",
        "is(int,int):int", "on(int,int):int", "words(int,int):int", "word(int,int,int):int",
        "copy(int,int,int,int,int):int", "mean(int):int", "calls(int,int):int", "fix(int,int):int",
        "lines(int,int):int", "want(int,int):int", "natural(int,int):int", "set(int):int", "tight(int,int):int",
        "tries():int", "width(int):int", "height(int):int", "pages(int):int", "page(int,int):int", "pageOf(int):int",
        "mayBreak(int):int", "count(int):int", "finding():int", "findings(int):int", "digest():long");

    /** What stands once in the program, and ahead of which something else may be put. */
    private static final String OUTER = "    private boolean isPlace(", INNER = "        void forget() {\n            Arrays", METHOD = "        latestClash = NONE;\n";

    /** A rule, words that stand once in the program, and what breaks the rule in their place. */
    private static final String[][] BREAKS = {
        {"1", "import java.util.Arrays;", "package p;\nimport java.util.Arrays;"},
        {"1", "public final class TableSetter {", "public class TableSetter {"},
        {"1", "public final class TableSetter {", "class Beside {\n}\n\npublic final class TableSetter {"},
        {"1", "private int tell(", "int tell("},
        {"1", "private int tell(", "protected int tell("},
        {"1", "private int tell(", "public int tell("},
        {"1", "private int latestTries", "int latestTries"},
        {"1", "private int latestTries", "public int latestTries"},
        {"1", "private static final int LEAST = 0", "static final int LEAST = 0"},
        {"1", "private static final class Share", "public static final class Share"},
        {"1", "private static final class Share", "protected static final class Share"},
        {"1", OUTER, "    private int word() {\n        return 0;\n    }\n\n" + OUTER},
        {"1", INNER, "        int width() {\n            return 0;\n        }\n\n" + INNER},
        {"2", OUTER, "    private final class Inner {\n    }\n\n" + OUTER},
        {"2", METHOD, METHOD + "        class Local {\n        }\n"},
        {"2", METHOD, METHOD + "        Runnable local = () -> { };\n"},
        {"2", METHOD, METHOD + "        Runnable local = this::tries;\n"},
        {"2", METHOD, METHOD + "        Object local = new Object() {\n        };\n"},
        {"3", METHOD, METHOD + "        double local = 1;\n"},
        {"3", METHOD, METHOD + "        int local = (int) 1.5;\n"},
        {"3", METHOD, METHOD + "        Integer local = 1;\n"},
        {"3", METHOD, METHOD + "        Object local = null;\n"},
        {"3", METHOD, METHOD + "        int[][][] local = null;\n"},
        {"3", METHOD, METHOD + "        Cell[][] local = null;\n"},
        {"3", METHOD, METHOD + "        String[] local = null;\n"},
        {"3", METHOD, METHOD + "        java.util.List<String> local = null;\n"},
        {"3", METHOD, METHOD + "        java.util.Set<Integer> local = null;\n"},
        {"4", "import java.util.Arrays;", "import java.util.Arrays;\nimport java.util.HashMap;"},
        {"4", "import java.util.Arrays;", "import java.util.*;"},
        {"4", METHOD, METHOD + "        int local = Math.addExact(r, c);\n"},
        {"4", METHOD, METHOD + "        int local = Math.toIntExact(3L);\n"},
        {"4", METHOD, METHOD + "        int local = Integer.MAX_VALUE;\n"},
        {"4", METHOD, METHOD + "        int local = Integer.parseInt(\"1\");\n"},
        {"4", METHOD, METHOD + "        long local = System.nanoTime();\n"},
        {"4", METHOD, METHOD + "        System.out.println();\n"},
        {"4", METHOD, METHOD + "        Arrays.sort(grid.weights);\n"},
        {"4", METHOD, METHOD + "        int local = grid.hashCode();\n"},
        {"4", METHOD, METHOD + "        String local = \"\\u00e9\";\n"},
        {"4", METHOD, METHOD + "        Thread.yield();\n"},
        {"4", OUTER, "    @Deprecated\n" + OUTER},
        {"5", "private static final int LEAST = 0", "private static int LEAST = 0"},
        {"5", OUTER, "    private static final int[] ROOM = new int[5];\n" + OUTER},
        {"5", OUTER, "    private static final Cell FIRST = new Cell();\n" + OUTER},
        {"5", OUTER, "    private static final int LATE;\n    static {\n        LATE = 1;\n    }\n" + OUTER},
        {"6", METHOD, METHOD + "        if (r == 5) {\n            throw new IllegalStateException();\n        }\n"},
        {"6", METHOD, METHOD + "        try {\n            r++;\n        } finally {\n            c++;\n        }\n"},
        {"6", METHOD, METHOD + "        synchronized (grid) {\n            r++;\n        }\n"},
        {"6", METHOD, METHOD + "        assert r > 0;\n"},
        {"6", METHOD, METHOD + "        Object local = (Object) grid;\n"},
        {"6", METHOD, METHOD + "        boolean local = \"a\" == \"b\";\n"},
        {"6", "private int tell(", "private synchronized int tell("},
        {"6", INNER, "        public String toString() {\n            return \"\";\n        }\n\n" + INNER},
        {"8", "    private int tell(int f) {\n", "    private int tell(int f) {\n        if (f > 9) {\n            return tell(f - 1);\n        }\n"},
        {"8", "        private int sumOf(int[] columnWidths) {\n", "        private int sumOf(int[] columnWidths) {\n            spareOf(1);\n"},
        {"9", METHOD, METHOD + "        for (;;) {\n            r++;\n            break;\n        }\n"},
        {"9", METHOD, METHOD + "        while (true) {\n            r++;\n            break;\n        }\n"},
        {"9", METHOD, METHOD + "        do {\n            r++;\n            break;\n        } while ((true));\n"},
        {"10", METHOD, METHOD + "        String local = \"a\" + r;\n"},
        {"10", METHOD, METHOD + "        String local = \"a\";\n        local += r;\n"},
        {"11", OUTER, "    private void many(int a, int b, int c, int d, int e, int f, int g, int h) {\n    }\n\n" + OUTER},
        {"11", METHOD, METHOD + "\n".repeat(60)},
        {"11", "    private int latestTries", "    private int a, b, c, d, e, f, g, h, i, j, k, l, m, n;\n    private int latestTries"},
        {"11", OUTER, classes(6) + OUTER},
        {"11", OUTER, chain(9) + OUTER},
        {"12", METHOD, METHOD + "        Cell local = new Cell();\n"},
        {"12", METHOD, METHOD + "        int[] local = new int[r];\n"},
        {"12", METHOD, METHOD + "        int[] local = {r};\n"},
    };

    private static String classes(int n) {
        StringBuilder text = new StringBuilder();
        for (int i = 0; i < n; i++) {
            text.append("    private static final class Class").append(i).append(" {\n    }\n\n");
        }
        return text.toString();
    }

    /** Methods of which each calls the next. */
    private static String chain(int n) {
        StringBuilder text = new StringBuilder();
        for (int i = 0; i < n; i++) {
            text.append("    private void chain").append(i).append("() {\n");
            text.append(i + 1 < n ? "        chain" + (i + 1) + "();\n" : "").append("    }\n\n");
        }
        return text.toString();
    }

    private static void due(String what, boolean fine) {
        Due.due(what, fine ? 1 : 0, 1);
    }

    private static String described(Method m) {
        List<String> types = new ArrayList<>();
        for (Class<?> type : m.getParameterTypes()) {
            types.add(type.getName());
        }
        return m.getName() + "(" + String.join(",", types) + "):" + m.getReturnType().getName();
    }

    /** All of the face, and nothing that another class could see beside it. */
    private static void face() {
        Class<?> type = TableSetter.class;
        Set<String> open = new TreeSet<>();
        for (Method m : type.getDeclaredMethods()) {
            if (!Modifier.isPrivate(m.getModifiers())) {
                due(m.getName() + " is public", Modifier.isPublic(m.getModifiers()) && !Modifier.isStatic(m.getModifiers()));
                open.add(described(m));
            }
        }
        due("the face's methods and no more: " + open, open.equals(new TreeSet<>(FACE)));
        Due.due("the face's constants and no more", type.getFields().length, 6);
        Constructor<?>[] made = type.getDeclaredConstructors();
        due("one public constructor", made.length == 1 && Modifier.isPublic(made[0].getModifiers())
            && made[0].getParameterCount() == 0);
    }

    private static void rules(String program) throws IOException {
        due("plain signs alone", program.chars().allMatch(c -> c == '\n' || c >= 32 && c < 127));
        Set<String> broken = Rules.brokenIn(program);
        due("rules that the program breaks: " + broken, broken.isEmpty());
        for (String[] b : BREAKS) {
            int at = program.indexOf(b[1]);
            due("stands there once: " + b[1], at >= 0 && program.indexOf(b[1], at + 1) < 0);
            Set<String> told = Rules.brokenIn(program.replace(b[1], b[2]));
            boolean isTold = false;
            for (String rule : told) {
                isTold |= rule.startsWith(b[0] + ": ");
            }
            due("rule " + b[0] + " is broken by " + b[2] + ", told was " + told, isTold);
        }
    }

    /** Each call takes no more room than the object itself; measured over many calls of the dearest ones. */
    private static void nothingGrows() {
        com.sun.management.ThreadMXBean bean =
            (com.sun.management.ThreadMXBean) java.lang.management.ManagementFactory.getThreadMXBean();
        TableSetter x = new TableSetter();
        long before = 0;
        for (int round = 0; round < 300; round++) {
            if (round == 100) {
                before = bean.getThreadAllocatedBytes(Thread.currentThread().getId());
            }
            x.table(16, 3, 1);
            for (int row = 0; row < 12; row++) {
                x.cell(row % 4, row, row % 2, 1, 2);
                x.words(row, 5);
                x.copy(row, 0, row, 1, 3);
            }
            x.tight(40, 20000);
            x.pages(20);
            x.digest();
        }
        long took = bean.getThreadAllocatedBytes(Thread.currentThread().getId()) - before;
        due("200 rounds of calls took " + took + " bytes", took < 20000);
    }

    public static void main(String[] args) throws IOException {
        face();
        rules(Files.readString(PROGRAM));
        nothingGrows();
        Due.end();
    }
}
