import java.io.IOException;
import java.lang.reflect.Constructor;
import java.lang.reflect.Field;
import java.lang.reflect.Method;
import java.lang.reflect.Modifier;
import java.nio.file.Files;
import java.nio.file.Path;
import java.util.ArrayList;
import java.util.Arrays;
import java.util.List;
import java.util.Set;
import java.util.TreeSet;
import java.util.regex.Matcher;
import java.util.regex.Pattern;

/** The rules of ../shared/LANGUAGE.md that can be seen from the source and from the class. */
public final class LanguageTests {
    private static final List<String> FACE = List.of("table(int,int,int):int", "weight(int,int):int",
        "note(int,int):int", "cell(int,int,int,int,int):int", "clash():int", "drop(int):int", "told(int,int):int",
        "is(int,int):int", "on(int,int):int", "words(int,int):int", "word(int,int,int):int",
        "copy(int,int,int,int,int):int", "mean(int):int", "calls(int,int):int", "fix(int,int):int",
        "lines(int,int):int", "want(int,int):int", "natural(int,int):int", "set(int):int", "tight(int,int):int",
        "tries():int", "width(int):int", "height(int):int", "pages(int):int", "page(int,int):int", "pageOf(int):int",
        "mayBreak(int):int", "count(int):int", "finding():int", "findings(int):int", "digest():long");

    private static void due(String what, boolean fine) {
        Due.due(what, fine ? 1 : 0, 1);
    }

    private static String described(Method m) {
        List<String> types = new ArrayList<>();
        for (Class<?> type : m.getParameterTypes()) {
            types.add(type.getName());
        }
        return m.getName() + "(" + String.join(",", types) + "):" + m.getReturnType().getName();
    }

    private static void face() {
        Class<?> type = TableSetter.class;
        due("public and final", Modifier.isPublic(type.getModifiers()) && Modifier.isFinal(type.getModifiers()));
        Set<String> open = new TreeSet<>();
        Set<String> names = new TreeSet<>();
        for (Method m : type.getDeclaredMethods()) {
            if (!Modifier.isPrivate(m.getModifiers())) {
                due(m.getName() + " is public", Modifier.isPublic(m.getModifiers()));
                open.add(described(m));
                names.add(m.getName());
            }
        }
        due("the face's methods and no more: " + open, open.equals(new TreeSet<>(FACE)));
        List<Class<?>> all = new ArrayList<>(Arrays.asList(type.getDeclaredClasses()));
        all.add(type);
        due("at most twelve classes", all.size() <= 12);
        for (Class<?> one : all) {
            for (Method m : one.getDeclaredMethods()) {
                boolean hidden = one != type || Modifier.isPrivate(m.getModifiers());
                due(one.getName() + "." + m.getName() + " has no name of the face", !hidden || !names.contains(m.getName()));
                due(one.getName() + "." + m.getName() + " takes at most seven", m.getParameterCount() <= 7);
            }
            due(one.getName() + " is static", one == type || Modifier.isStatic(one.getModifiers()));
            due(one.getName() + " has at most twenty fields", fieldsOf(one) <= 20);
        }
        Constructor<?>[] made = type.getDeclaredConstructors();
        due("one public constructor", made.length == 1 && Modifier.isPublic(made[0].getModifiers())
            && made[0].getParameterCount() == 0);
    }

    private static int fieldsOf(Class<?> type) {
        int n = 0;
        for (Field f : type.getDeclaredFields()) {
            boolean isStatic = Modifier.isStatic(f.getModifiers());
            due("static fields are final: " + f, !isStatic || Modifier.isFinal(f.getModifiers()));
            boolean open = type == TableSetter.class && !Modifier.isPrivate(f.getModifiers());
            due("no open field but the face's constants: " + f, !open || Modifier.isPublic(f.getModifiers()) && isStatic);
            n += isStatic ? 0 : 1;
        }
        return n;
    }

    private static void source(String text) {
        String bare = text.replaceAll("(?s)/\\*.*?\\*/", " ").replaceAll("//[^\n]*", " ");
        for (String word : new String[] {"throw", "throws", "try", "catch", "finally", "synchronized", "assert", "package",
            "instanceof", "volatile", "native", "transient", "extends", "equals", "hashCode", "toString", "Exception",
            "System.nanoTime", "System.currentTimeMillis", "System.out", "Random", "Object", "Thread", "protected"}) {
            due("no " + word, !Pattern.compile("\\b" + Pattern.quote(word) + "\\b").matcher(bare).find());
        }
        due("no lambda, no method reference", !bare.contains("->") && !bare.contains("::"));
        due("no text", !bare.contains("\""));
        Matcher imports = Pattern.compile("import ([^;]*);").matcher(bare);
        while (imports.find()) {
            due("import " + imports.group(1), imports.group(1).equals("java.util.Arrays"));
        }
        Matcher library = Pattern.compile("\\b(System|Arrays|Math)\\.(\\w+)").matcher(bare);
        Set<String> listed = Set.of("System.arraycopy", "Arrays.fill", "Arrays.copyOf", "Arrays.copyOfRange", "Math.max", "Math.min");
        while (library.find()) {
            due("library: " + library.group(), listed.contains(library.group()));
        }
        due("plain signs alone", text.chars().allMatch(c -> c == '\n' || c >= 32 && c < 127));
        methodsAreShort(text);
        objectsAreMadeAhead(bare);
    }

    private static void methodsAreShort(String text) {
        String[] rows = text.split("\n");
        Pattern head = Pattern.compile("( {4}| {8})\\w[^;=]*\\) \\{");
        for (int i = 0; i < rows.length; i++) {
            Matcher m = head.matcher(rows[i]);
            if (!m.matches()) {
                continue;
            }
            int end = i;
            while (end < rows.length && !rows[end].equals(m.group(1) + "}")) {
                end++;
            }
            due("short: " + rows[i].trim(), end < rows.length && end - i < 60);
        }
    }

    /** What lives in one room is made with the object: "new" stands in fields and in Grid's constructor alone. */
    private static void objectsAreMadeAhead(String bare) {
        for (String row : bare.split("\n")) {
            if (row.matches(".*\\bnew\\b.*")) {
                due("made ahead: " + row.trim(),
                    row.matches(" +(private )?final .*= new .*;") || row.trim().equals("cells[i] = new Cell();"));
            }
        }
    }

    /** Each call takes no more room than the object itself; measured over many calls of the dearest ones. */
    private static void nothingGrows() {
        com.sun.management.ThreadMXBean bean =
            (com.sun.management.ThreadMXBean) java.lang.management.ManagementFactory.getThreadMXBean();
        TableSetter x = new TableSetter();
        long before = 0;
        for (int round = 0; round < 300; round++) {
            if (round == 100) {
                before = bean.getThreadAllocatedBytes(Thread.currentThread().getId());
            }
            x.table(16, 3, 1);
            for (int row = 0; row < 12; row++) {
                x.cell(row % 4, row, row % 2, 1, 2);
                x.words(row, 5);
                x.copy(row, 0, row, 1, 3);
            }
            x.tight(40, 20000);
            x.pages(20);
            x.digest();
        }
        long took = bean.getThreadAllocatedBytes(Thread.currentThread().getId()) - before;
        due("200 rounds of calls took " + took + " bytes", took < 20000);
    }

    public static void main(String[] args) throws IOException {
        face();
        source(Files.readString(Path.of("src/main/java/TableSetter.java")));
        nothingGrows();
        Due.end();
    }
}
