import com.sun.source.tree.AnnotationTree;
import com.sun.source.tree.AssertTree;
import com.sun.source.tree.BinaryTree;
import com.sun.source.tree.BlockTree;
import com.sun.source.tree.ClassTree;
import com.sun.source.tree.CompilationUnitTree;
import com.sun.source.tree.CompoundAssignmentTree;
import com.sun.source.tree.DoWhileLoopTree;
import com.sun.source.tree.ExpressionTree;
import com.sun.source.tree.ForLoopTree;
import com.sun.source.tree.IdentifierTree;
import com.sun.source.tree.ImportTree;
import com.sun.source.tree.LambdaExpressionTree;
import com.sun.source.tree.LiteralTree;
import com.sun.source.tree.MemberReferenceTree;
import com.sun.source.tree.MemberSelectTree;
import com.sun.source.tree.MethodInvocationTree;
import com.sun.source.tree.MethodTree;
import com.sun.source.tree.NewArrayTree;
import com.sun.source.tree.NewClassTree;
import com.sun.source.tree.ParenthesizedTree;
import com.sun.source.tree.SynchronizedTree;
import com.sun.source.tree.ThrowTree;
import com.sun.source.tree.Tree;
import com.sun.source.tree.TryTree;
import com.sun.source.tree.TypeCastTree;
import com.sun.source.tree.VariableTree;
import com.sun.source.tree.WhileLoopTree;
import com.sun.source.util.JavacTask;
import com.sun.source.util.TreePath;
import com.sun.source.util.TreePathScanner;
import com.sun.source.util.Trees;
import java.io.IOException;
import java.net.URI;
import java.util.HashMap;
import java.util.HashSet;
import java.util.List;
import java.util.Map;
import java.util.Set;
import java.util.TreeSet;
import javax.lang.model.element.Element;
import javax.lang.model.element.ElementKind;
import javax.lang.model.element.Modifier;
import javax.lang.model.element.TypeElement;
import javax.lang.model.type.ArrayType;
import javax.lang.model.type.DeclaredType;
import javax.lang.model.type.TypeKind;
import javax.lang.model.type.TypeMirror;
import javax.tools.JavaCompiler;
import javax.tools.JavaFileObject;
import javax.tools.SimpleJavaFileObject;
import javax.tools.ToolProvider;

/**
 * Where a program breaks the rules of ../shared/LANGUAGE.md, told as "6: a throw", by the tree that Java's compiler
 * makes of it. It is narrower than the rules where this program needs less: no casts of references, no numbers with a
 * point, no recursion, nothing made but with the object. Rules 7 and 13 can't be seen so: EdgeTests and
 * RandomRunsTests look for what throws, and a clock or a file would break rule 4.
 */
final class Rules extends TreePathScanner<Void, Void> {
    private static final int MOST_CLASSES = 12, MOST_FIELDS = 20, MOST_PARAMETERS = 7, MOST_LINES = 60, DEEPEST = 8;
    private static final Set<String> IMPORTS = Set.of("java.util.Arrays", "java.util.ArrayList", "java.util.List", "java.util.Iterator");
    private static final Set<String> FACE = Set.of("table", "weight", "note", "cell", "clash", "drop", "told", "is", "on",
        "words", "word", "copy", "mean", "calls", "fix", "lines", "want", "natural", "set", "tight", "tries", "width", "height",
        "pages", "page", "pageOf", "mayBreak", "count", "finding", "findings", "digest");
    private static final Set<String> CONSTANTS = Set.of("BAD", "FULL", "FINDING", "STATE", "SPENT", "NONE");
    private static final Map<String, Set<String>> LIBRARY = Map.of(
        "java.lang.String", Set.of("length", "charAt", "isEmpty", "equals", "indexOf", "substring", "toCharArray"),
        "java.lang.StringBuilder", Set.of("append", "charAt", "setCharAt", "setLength", "deleteCharAt", "reverse", "length", "toString"),
        "java.util.ArrayList", Set.of("add", "get", "set", "remove", "size", "isEmpty", "clear"),
        "java.util.List", Set.of("add", "get", "set", "remove", "size", "isEmpty", "clear", "of"),
        "java.lang.Math", Set.of("max", "min", "abs", "floorDiv", "floorMod"),
        "java.lang.Integer", Set.of("compare", "max", "min", "bitCount"),
        "java.lang.Long", Set.of("compare", "max", "min", "bitCount"),
        "java.lang.System", Set.of("arraycopy"),
        "java.util.Arrays", Set.of("copyOf", "copyOfRange", "fill"),
        "java.lang.Object", Set.of("<init>", "clone"));

    private final Set<String> broken = new TreeSet<>();
    private final Map<Element, Set<Element>> calls = new HashMap<>();
    private final CompilationUnitTree unit;
    private final Trees trees;
    private int classes = 0;

    private Rules(CompilationUnitTree theUnit, Trees theTrees) {
        unit = theUnit;
        trees = theTrees;
    }

    private static final class Source extends SimpleJavaFileObject {
        private final String text;

        Source(String theText) {
            super(URI.create("string:///TableSetter.java"), Kind.SOURCE);
            text = theText;
        }

        @Override
        public CharSequence getCharContent(boolean ignoreEncodingErrors) {
            return text;
        }
    }

    static Set<String> brokenIn(String program) throws IOException {
        JavaCompiler compiler = ToolProvider.getSystemJavaCompiler();
        Set<String> faults = new TreeSet<>();
        List<JavaFileObject> sources = List.of(new Source(program));
        JavacTask task = (JavacTask) compiler.getTask(null, null, said -> {
            if (said.getKind() == javax.tools.Diagnostic.Kind.ERROR) {
                faults.add("0: " + said);
            }
        }, List.of("-proc:none"), null, sources);
        Iterable<? extends CompilationUnitTree> units = task.parse();
        task.analyze();
        if (!faults.isEmpty()) {
            return faults;
        }
        for (CompilationUnitTree unit : units) {
            Rules rules = new Rules(unit, Trees.instance(task));
            rules.scan(unit, null);
            rules.depths();
            faults.addAll(rules.broken);
        }
        return faults;
    }

    private void tell(int rule, String what) {
        broken.add(rule + ": " + what);
    }

    // ---- Classes and their members

    @Override
    public Void visitCompilationUnit(CompilationUnitTree node, Void none) {
        if (node.getPackageName() != null) {
            tell(1, "a package line");
        }
        if (node.getTypeDecls().size() != 1) {
            tell(1, "more than one class beside each other");
        }
        super.visitCompilationUnit(node, none);
        if (classes > MOST_CLASSES) {
            tell(11, classes + " classes");
        }
        return null;
    }

    @Override
    public Void visitImport(ImportTree node, Void none) {
        if (node.isStatic() || !IMPORTS.contains(node.getQualifiedIdentifier().toString())) {
            tell(4, "" + node);
        }
        return null;
    }

    @Override
    public Void visitClass(ClassTree node, Void none) {
        classes++;
        String name = "class " + node.getSimpleName();
        Set<Modifier> modifiers = node.getModifiers().getFlags();
        Tree around = getCurrentPath().getParentPath().getLeaf();
        if (around instanceof CompilationUnitTree) {
            if (!modifiers.contains(Modifier.PUBLIC) || !modifiers.contains(Modifier.FINAL)) {
                tell(1, name + " is not public and final");
            }
        } else if (!(around instanceof ClassTree)) {
            tell(2, name + " stands in a method");
        } else {
            if (modifiers.contains(Modifier.PUBLIC) || modifiers.contains(Modifier.PROTECTED)) {
                tell(1, name + " is open");
            }
            if (node.getKind() == Tree.Kind.CLASS && !modifiers.contains(Modifier.STATIC)) {
                tell(2, name + " is not static");
            }
        }
        int fields = 0;
        for (Tree member : node.getMembers()) {
            if (member instanceof VariableTree field && !field.getModifiers().getFlags().contains(Modifier.STATIC)) {
                fields++;
            }
            if (member instanceof BlockTree block && block.isStatic()) {
                tell(5, "a static block in " + name);
            }
        }
        if (fields > MOST_FIELDS) {
            tell(11, fields + " fields in " + name);
        }
        return super.visitClass(node, none);
    }

    private boolean isOuter(TreePath member) {
        TreePath around = member.getParentPath();
        return around.getLeaf() instanceof ClassTree && around.getParentPath().getLeaf() instanceof CompilationUnitTree;
    }

    @Override
    public Void visitMethod(MethodTree node, Void none) {
        String name = node.getName().toString();
        Set<Modifier> modifiers = node.getModifiers().getFlags();
        boolean isFace = isOuter(getCurrentPath()) && modifiers.contains(Modifier.PUBLIC);
        if (isFace && !FACE.contains(name) && !name.equals("<init>")) {
            tell(1, "an open method " + name);
        }
        if (isOuter(getCurrentPath()) && !isFace && !modifiers.contains(Modifier.PRIVATE)) {
            tell(1, "a method that is neither public nor private, " + name);
        }
        if (!isFace && FACE.contains(name)) {
            tell(1, "a method inside with a name of the face, " + name);
        }
        if (node.getParameters().size() > MOST_PARAMETERS) {
            tell(11, node.getParameters().size() + " parameters of " + name);
        }
        if (!node.getThrows().isEmpty() || modifiers.contains(Modifier.SYNCHRONIZED)
            || Set.of("equals", "hashCode", "toString").contains(name)) {
            tell(6, "method " + name);
        }
        if (modifiers.contains(Modifier.NATIVE)) {
            tell(4, "native " + name);
        }
        if (linesOf(node) > MOST_LINES) {
            tell(11, linesOf(node) + " lines of " + name);
        }
        calls.computeIfAbsent(trees.getElement(getCurrentPath()), key -> new HashSet<>());
        return super.visitMethod(node, none);
    }

    private long linesOf(Tree node) {
        long end = trees.getSourcePositions().getEndPosition(unit, node);
        // A constructor that the compiler adds stands nowhere.
        return end < 0 ? 0 : unit.getLineMap().getLineNumber(end)
            - unit.getLineMap().getLineNumber(trees.getSourcePositions().getStartPosition(unit, node)) + 1;
    }

    @Override
    public Void visitVariable(VariableTree node, Void none) {
        TypeMirror type = trees.getTypeMirror(getCurrentPath());
        if (!isAllowed(type)) {
            tell(3, type + " " + node.getName());
        }
        Set<Modifier> modifiers = node.getModifiers().getFlags();
        if (getCurrentPath().getParentPath().getLeaf() instanceof ClassTree) {
            boolean isConstant = modifiers.contains(Modifier.STATIC);
            if (isOuter(getCurrentPath()) && !modifiers.contains(Modifier.PRIVATE)
                && !(isConstant && CONSTANTS.contains(node.getName().toString()))) {
                tell(1, "an open field " + node.getName());
            }
            if (isConstant && !(modifiers.contains(Modifier.FINAL) && isWrittenOut(type, node.getInitializer()))) {
                tell(5, "static " + node.getName());
            }
        }
        return super.visitVariable(node, none);
    }

    private boolean isWrittenOut(TypeMirror type, ExpressionTree value) {
        if (type.getKind() == TypeKind.ARRAY) {
            return value instanceof NewArrayTree array && array.getInitializers() != null
                && Set.of("int", "long", "char", "byte").contains(((ArrayType) type).getComponentType().toString());
        }
        return Set.of("int", "long", "boolean", "char", "java.lang.String").contains(type.toString());
    }

    // ---- Types

    private boolean isOwn(Element element) {
        Element at = element;
        while (at.getEnclosingElement() != null && at.getEnclosingElement().getKind() != ElementKind.PACKAGE) {
            at = at.getEnclosingElement();
        }
        return at.getSimpleName().contentEquals("TableSetter");
    }

    private boolean isAllowed(TypeMirror type) {
        if (type.getKind() == TypeKind.ARRAY) {
            TypeMirror inside = ((ArrayType) type).getComponentType();
            if (inside.getKind() == TypeKind.ARRAY) {
                return isNumber(((ArrayType) inside).getComponentType());
            }
            return isNumber(inside) || inside instanceof DeclaredType own && isOwn(own.asElement());
        }
        if (type instanceof DeclaredType declared) {
            String name = ((TypeElement) declared.asElement()).getQualifiedName().toString();
            boolean isList = name.equals("java.util.List") || name.equals("java.util.ArrayList");
            boolean fits = true;
            for (TypeMirror of : declared.getTypeArguments()) {
                fits &= of.toString().equals("java.lang.Integer") || of instanceof DeclaredType own && isOwn(own.asElement());
            }
            return fits && (isOwn(declared.asElement()) || isList && !declared.getTypeArguments().isEmpty()
                || name.equals("java.lang.String") || name.equals("java.lang.StringBuilder"));
        }
        return isNumber(type);
    }

    private static boolean isNumber(TypeMirror type) {
        return Set.of("int", "long", "short", "byte", "char", "boolean").contains(type.toString());
    }

    private TypeMirror typeOf(Tree node) {
        return trees.getTypeMirror(TreePath.getPath(unit, node));
    }

    private boolean isText(Tree node) {
        return typeOf(node).toString().equals("java.lang.String");
    }

    // ---- What a method does

    @Override
    public Void visitMethodInvocation(MethodInvocationTree node, Void none) {
        Element called = trees.getElement(getCurrentPath());
        if (isOwn(called)) {
            noteCall(called);
        } else {
            String owner = ((TypeElement) called.getEnclosingElement()).getQualifiedName().toString();
            String name = called.getSimpleName().toString();
            if (!LIBRARY.getOrDefault(owner, Set.of()).contains(name)) {
                tell(4, owner + "." + name);
            }
        }
        return super.visitMethodInvocation(node, none);
    }

    private void noteCall(Element called) {
        Element caller = caller();
        if (caller != null) {
            calls.computeIfAbsent(caller, key -> new HashSet<>()).add(called);
        }
    }

    /** The method around; null: a field's first value. */
    private Element caller() {
        for (TreePath path = getCurrentPath(); path != null; path = path.getParentPath()) {
            if (path.getLeaf() instanceof MethodTree) {
                return trees.getElement(path);
            }
        }
        return null;
    }

    private boolean isMadeAhead() {
        Element caller = caller();
        return caller == null || caller.getKind() == ElementKind.CONSTRUCTOR;
    }

    @Override
    public Void visitNewClass(NewClassTree node, Void none) {
        if (node.getClassBody() != null) {
            tell(2, "a class without a name");
        }
        if (!isAllowed(typeOf(node))) {
            tell(4, "new " + typeOf(node));
        }
        if (!isMadeAhead()) {
            tell(12, "" + node);
        }
        return super.visitNewClass(node, none);
    }

    @Override
    public Void visitNewArray(NewArrayTree node, Void none) {
        if (!isMadeAhead()) {
            tell(12, "" + node);
        }
        return super.visitNewArray(node, none);
    }

    @Override
    public Void visitMemberSelect(MemberSelectTree node, Void none) {
        Element element = trees.getElement(getCurrentPath());
        boolean isField = element != null && element.getKind() == ElementKind.FIELD;
        if (isField && !isOwn(element) && typeOf(node.getExpression()).getKind() != TypeKind.ARRAY) {
            tell(4, "" + node);
        }
        return super.visitMemberSelect(node, none);
    }

    @Override
    public Void visitIdentifier(IdentifierTree node, Void none) {
        Element element = trees.getElement(getCurrentPath());
        if (element instanceof TypeElement type && !isOwn(type) && !LIBRARY.containsKey(type.getQualifiedName().toString())) {
            tell(4, "" + type);
        }
        return super.visitIdentifier(node, none);
    }

    @Override
    public Void visitLambdaExpression(LambdaExpressionTree node, Void none) {
        tell(2, "a lambda");
        return super.visitLambdaExpression(node, none);
    }

    @Override
    public Void visitMemberReference(MemberReferenceTree node, Void none) {
        tell(2, "a method reference");
        return super.visitMemberReference(node, none);
    }

    @Override
    public Void visitAnnotation(AnnotationTree node, Void none) {
        tell(4, "" + node);
        return null;
    }

    @Override
    public Void visitThrow(ThrowTree node, Void none) {
        tell(6, "a throw");
        return super.visitThrow(node, none);
    }

    @Override
    public Void visitTry(TryTree node, Void none) {
        tell(6, "a try");
        return super.visitTry(node, none);
    }

    @Override
    public Void visitSynchronized(SynchronizedTree node, Void none) {
        tell(6, "synchronized");
        return super.visitSynchronized(node, none);
    }

    @Override
    public Void visitAssert(AssertTree node, Void none) {
        tell(6, "an assert");
        return super.visitAssert(node, none);
    }

    @Override
    public Void visitTypeCast(TypeCastTree node, Void none) {
        if (!isNumber(typeOf(node.getType()))) {
            tell(6, "a cast to " + node.getType());
        }
        return super.visitTypeCast(node, none);
    }

    @Override
    public Void visitBinary(BinaryTree node, Void none) {
        boolean isText = isText(node.getLeftOperand()) || isText(node.getRightOperand());
        if (node.getKind() == Tree.Kind.PLUS && isText) {
            tell(10, "a text joined by +");
        }
        boolean isNull = node.getLeftOperand().getKind() == Tree.Kind.NULL_LITERAL || node.getRightOperand().getKind() == Tree.Kind.NULL_LITERAL;
        if ((node.getKind() == Tree.Kind.EQUAL_TO || node.getKind() == Tree.Kind.NOT_EQUAL_TO) && isText && !isNull) {
            tell(6, "texts compared by " + node);
        }
        return super.visitBinary(node, none);
    }

    @Override
    public Void visitCompoundAssignment(CompoundAssignmentTree node, Void none) {
        if (isText(node.getVariable())) {
            tell(10, "a text joined by +=");
        }
        return super.visitCompoundAssignment(node, none);
    }

    @Override
    public Void visitLiteral(LiteralTree node, Void none) {
        if (node.getValue() instanceof String text && !text.chars().allMatch(c -> c >= 1 && c <= 127)) {
            tell(4, "signs in a text");
        }
        if (node.getValue() instanceof Double || node.getValue() instanceof Float) {
            tell(3, "a number with a point");
        }
        return null;
    }

    // ---- Loops and calls

    private static boolean isEndless(ExpressionTree condition) {
        ExpressionTree bare = condition;
        while (bare instanceof ParenthesizedTree inside) {
            bare = inside.getExpression();
        }
        return bare == null || bare instanceof LiteralTree;
    }

    @Override
    public Void visitForLoop(ForLoopTree node, Void none) {
        if (isEndless(node.getCondition())) {
            tell(9, "a for without an end");
        }
        return super.visitForLoop(node, none);
    }

    @Override
    public Void visitWhileLoop(WhileLoopTree node, Void none) {
        if (isEndless(node.getCondition())) {
            tell(9, "a while without an end");
        }
        return super.visitWhileLoop(node, none);
    }

    @Override
    public Void visitDoWhileLoop(DoWhileLoopTree node, Void none) {
        if (isEndless(node.getCondition())) {
            tell(9, "a do without an end");
        }
        return super.visitDoWhileLoop(node, none);
    }

    private void depths() {
        for (Element method : calls.keySet()) {
            int depth = depth(method, new HashSet<>());
            if (depth > DEEPEST) {
                tell(11, depth + " calls deep: " + method);
            }
        }
    }

    private int depth(Element method, Set<Element> open) {
        if (!open.add(method)) {
            tell(8, "recursion of " + method);
            return 0;
        }
        int deepest = 0;
        for (Element called : calls.getOrDefault(method, Set.of())) {
            deepest = Math.max(deepest, depth(called, open));
        }
        open.remove(method);
        return deepest + 1;
    }
}
