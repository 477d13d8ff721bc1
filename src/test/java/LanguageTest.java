import com.sun.source.tree.AssertTree;
import com.sun.source.tree.BinaryTree;
import com.sun.source.tree.BlockTree;
import com.sun.source.tree.ClassTree;
import com.sun.source.tree.CompilationUnitTree;
import com.sun.source.tree.CompoundAssignmentTree;
import com.sun.source.tree.ExpressionTree;
import com.sun.source.tree.ImportTree;
import com.sun.source.tree.LambdaExpressionTree;
import com.sun.source.tree.MemberReferenceTree;
import com.sun.source.tree.MethodInvocationTree;
import com.sun.source.tree.MethodTree;
import com.sun.source.tree.NewArrayTree;
import com.sun.source.tree.NewClassTree;
import com.sun.source.tree.SynchronizedTree;
import com.sun.source.tree.ThrowTree;
import com.sun.source.tree.Tree;
import com.sun.source.tree.TryTree;
import com.sun.source.tree.VariableTree;
import com.sun.source.util.JavacTask;
import com.sun.source.util.TreePath;
import com.sun.source.util.TreePathScanner;
import com.sun.source.util.Trees;
import java.io.IOException;
import java.nio.file.Files;
import java.nio.file.Path;
import java.util.ArrayDeque;
import java.util.Arrays;
import java.util.Deque;
import java.util.HashMap;
import java.util.HashSet;
import java.util.LinkedHashMap;
import java.util.LinkedHashSet;
import java.util.List;
import java.util.Map;
import java.util.Set;
import javax.lang.model.element.Element;
import javax.lang.model.element.ElementKind;
import javax.lang.model.element.ExecutableElement;
import javax.lang.model.element.Modifier;
import javax.lang.model.element.TypeElement;
import javax.lang.model.element.VariableElement;
import javax.tools.JavaCompiler;
import javax.tools.StandardJavaFileManager;
import javax.tools.ToolProvider;

/** The rules of LANGUAGE.md that can be seen in the source itself; its rule 1 is FaceTest's, its rule 12 RoomTest's. */
public final class LanguageTest extends TreePathScanner<Void, Void> {
    private static final Path SOURCE = Path.of("src/main/java/KingsBoard.java");
    private static final Set<String> EXCEPTIONS = Set.of("IllegalStateException", "IllegalArgumentException",
            "IndexOutOfBoundsException", "ArithmeticException", "UnsupportedOperationException",
            "NoSuchElementException", "RuntimeException");
    private static final Set<String> PLAIN_CONSTANTS = Set.of("int", "long", "boolean", "char", "java.lang.String");
    private static final Set<String> ROW_CONSTANTS = Set.of("int[]", "long[]", "char[]", "byte[]");
    private static final Map<String, Set<String>> LIBRARY = Map.of(
            "java.lang.String", Set.of("length", "charAt", "isEmpty", "equals", "indexOf", "substring", "toCharArray"),
            "java.lang.StringBuilder", Set.of("append", "charAt", "setCharAt", "setLength", "deleteCharAt", "reverse",
                    "length", "toString"),
            "java.lang.System", Set.of("arraycopy"),
            "java.util.Arrays", Set.of("copyOf", "copyOfRange", "fill"));
    private static final Set<String> NUMBER_LIBRARY = Set.of("java.lang.Math", "java.lang.Integer", "java.lang.Long");
    private static final int MOST_LEVELS = 8;
    private static final int MOST_PARAMETERS = 7;
    private static final int MOST_LINES = 60;
    private static final int MOST_CLASSES = 12;
    private static final int MOST_FIELDS = 20;

    private final CompilationUnitTree unit;
    private final Trees trees;
    private final Map<Element, Set<Element>> calls = new LinkedHashMap<>();
    private final Map<Element, Integer> known = new HashMap<>();
    private int classes = 0;

    private LanguageTest(CompilationUnitTree unit, Trees trees) {
        this.unit = unit;
        this.trees = trees;
    }

    public static void main(String[] args) throws IOException {
        signs();
        JavaCompiler compiler = ToolProvider.getSystemJavaCompiler();
        try (StandardJavaFileManager files = compiler.getStandardFileManager(null, null, null)) {
            JavacTask task = (JavacTask) compiler.getTask(null, files, null, List.of("--release", "17"), null,
                    files.getJavaFileObjects(SOURCE));
            CompilationUnitTree unit = task.parse().iterator().next();
            task.analyze();
            LanguageTest test = new LanguageTest(unit, Trees.instance(task));
            test.scan(unit, null);
            test.wholes();
        }
        Check.end();
    }

    private static void signs() throws IOException {
        Check.sentence("rule 4: constants, whose signs are 1 to 127");
        for (byte sign : Files.readAllBytes(SOURCE)) {
            Check.isTrue("sign " + sign, sign >= 1);
        }
    }

    private void wholes() {
        Check.sentence("without a package line");
        Check.isTrue("no package", unit.getPackageName() == null);
        Check.sentence("rule 11: the file has at most some twelve classes");
        Check.isTrue(classes + " classes", classes <= MOST_CLASSES);
        Check.sentence("rule 11: calls that are no recursion go at most eight deep");
        for (Element method : calls.keySet()) {
            int levels = levels(method, new ArrayDeque<>());
            Check.isTrue(levels + " levels from " + method, levels <= MOST_LEVELS);
        }
    }

    /** The longest chain of calls from a method, itself and the library's methods counted, nobody twice. */
    private int levels(Element method, Deque<Element> open) {
        if (open.contains(method)) {
            return 0;
        }
        if (known.containsKey(method)) {
            return known.get(method);
        }
        open.push(method);
        int deepest = 0;
        for (Element next : calls.getOrDefault(method, Set.of())) {
            deepest = Math.max(deepest, levels(next, open));
        }
        open.pop();
        known.put(method, deepest + 1);
        return deepest + 1;
    }

    private void rule(int number, String what, Tree tree, boolean holds) {
        Check.sentence("rule " + number);
        Check.isTrue(what + " in line " + lineOf(trees.getSourcePositions().getStartPosition(unit, tree)), holds);
    }

    private long lineOf(long position) {
        return unit.getLineMap().getLineNumber(position);
    }

    private String typeOf(Tree tree) {
        return String.valueOf(trees.getTypeMirror(new TreePath(getCurrentPath(), tree)));
    }

    private static boolean isOwn(Element element) {
        Element one = element;
        while (one.getEnclosingElement().getKind() != ElementKind.PACKAGE) {
            one = one.getEnclosingElement();
        }
        return one.getSimpleName().contentEquals("KingsBoard");
    }

    @Override
    public Void visitImport(ImportTree tree, Void none) {
        String name = tree.getQualifiedIdentifier().toString();
        Set<String> allowed = Set.of("java.util.ArrayList", "java.util.List", "java.util.Arrays", "java.util.Iterator",
                "java.util.NoSuchElementException");
        rule(4, "import of " + name, tree, allowed.contains(name));
        return super.visitImport(tree, none);
    }

    @Override
    public Void visitClass(ClassTree tree, Void none) {
        classes++;
        long fields = tree.getMembers().stream()
                .filter(one -> one instanceof VariableTree field
                        && !field.getModifiers().getFlags().contains(Modifier.STATIC))
                .count();
        rule(11, fields + " fields of " + tree.getSimpleName(), tree, fields <= MOST_FIELDS);
        for (Tree member : tree.getMembers()) {
            rule(5, "static initialiser block", member, !(member instanceof BlockTree block && block.isStatic()));
        }
        return super.visitClass(tree, none);
    }

    @Override
    public Void visitVariable(VariableTree tree, Void none) {
        Set<Modifier> flags = tree.getModifiers().getFlags();
        if (flags.contains(Modifier.STATIC)) {
            String type = String.valueOf(((VariableElement) trees.getElement(getCurrentPath())).asType());
            boolean isWrittenOut = tree.getInitializer() instanceof NewArrayTree row && row.getInitializers() != null;
            rule(5, "static " + tree.getName() + " is final", tree, flags.contains(Modifier.FINAL));
            rule(5, "static " + tree.getName(), tree,
                    PLAIN_CONSTANTS.contains(type) || ROW_CONSTANTS.contains(type) && isWrittenOut);
        }
        return super.visitVariable(tree, none);
    }

    @Override
    public Void visitMethod(MethodTree tree, Void none) {
        calls.computeIfAbsent(trees.getElement(getCurrentPath()), key -> new LinkedHashSet<>());
        rule(11, "parameters of " + tree.getName(), tree, tree.getParameters().size() <= MOST_PARAMETERS);
        long first = trees.getSourcePositions().getStartPosition(unit, tree);
        long last = trees.getSourcePositions().getEndPosition(unit, tree);
        if (last > first) {
            long lines = lineOf(last) - lineOf(first) + 1;
            rule(11, lines + " lines of " + tree.getName(), tree, lines <= MOST_LINES);
        }
        return super.visitMethod(tree, none);
    }

    private void call(Element called) {
        for (TreePath path = getCurrentPath(); path != null; path = path.getParentPath()) {
            if (path.getLeaf() instanceof MethodTree) {
                calls.computeIfAbsent(trees.getElement(path), key -> new LinkedHashSet<>()).add(called);
                return;
            }
        }
    }

    @Override
    public Void visitMethodInvocation(MethodInvocationTree tree, Void none) {
        ExecutableElement called = (ExecutableElement) trees.getElement(getCurrentPath());
        String owner = ((TypeElement) called.getEnclosingElement()).getQualifiedName().toString();
        // The call of the parent's constructor that the compiler puts first is not in the source.
        if (!called.getSimpleName().contentEquals("<init>")) {
            call(called);
            rule(4, "call of " + owner + "." + called, tree, isOwn(called) || isInLibrary(owner, called));
        }
        return super.visitMethodInvocation(tree, none);
    }

    private static boolean isInLibrary(String owner, ExecutableElement called) {
        String name = called.getSimpleName().toString();
        if (!NUMBER_LIBRARY.contains(owner)) {
            return LIBRARY.getOrDefault(owner, Set.of()).contains(name);
        }
        Set<String> types = new HashSet<>(Set.of(called.getReturnType().toString()));
        called.getParameters().forEach(one -> types.add(one.asType().toString()));
        types.removeAll(Set.of("int", "long"));
        return types.isEmpty() && called.getModifiers().contains(Modifier.STATIC) && !name.endsWith("Exact");
    }

    @Override
    public Void visitNewClass(NewClassTree tree, Void none) {
        Element made = trees.getElement(getCurrentPath());
        boolean isKnown = isOwn(made) || EXCEPTIONS.contains(tree.getIdentifier().toString())
                || Set.of("StringBuilder", "String").contains(tree.getIdentifier().toString());
        rule(4, "new " + tree.getIdentifier(), tree, isKnown);
        rule(2, "anonymous class", tree, tree.getClassBody() == null);
        if (isOwn(made)) {
            call(made);
        }
        return super.visitNewClass(tree, none);
    }

    @Override
    public Void visitThrow(ThrowTree tree, Void none) {
        ExpressionTree thrown = tree.getExpression();
        boolean isPlain = thrown instanceof NewClassTree made && EXCEPTIONS.contains(made.getIdentifier().toString())
                && made.getArguments().size() <= 1
                && made.getArguments().stream().allMatch(one -> one.getKind() == Tree.Kind.STRING_LITERAL);
        rule(6, "throw", tree, isPlain);
        for (TreePath path = getCurrentPath(); path != null; path = path.getParentPath()) {
            if (path.getLeaf() instanceof MethodTree method) {
                Set<Modifier> flags = method.getModifiers().getFlags();
                rule(6, "throw in " + method.getName(), tree, !method.getName().contentEquals("<init>"));
                rule(6, "throw in a method of the face", tree, flags.contains(Modifier.PUBLIC));
            }
        }
        return super.visitThrow(tree, none);
    }

    @Override
    public Void visitTry(TryTree tree, Void none) {
        rule(6, "finally", tree, tree.getFinallyBlock() == null);
        rule(6, "try with resources", tree, tree.getResources().isEmpty());
        return super.visitTry(tree, none);
    }

    @Override
    public Void visitLambdaExpression(LambdaExpressionTree tree, Void none) {
        rule(2, "lambda", tree, false);
        return super.visitLambdaExpression(tree, none);
    }

    @Override
    public Void visitMemberReference(MemberReferenceTree tree, Void none) {
        rule(2, "method reference", tree, false);
        return super.visitMemberReference(tree, none);
    }

    @Override
    public Void visitSynchronized(SynchronizedTree tree, Void none) {
        rule(6, "synchronized", tree, false);
        return super.visitSynchronized(tree, none);
    }

    @Override
    public Void visitAssert(AssertTree tree, Void none) {
        rule(6, "assert", tree, false);
        return super.visitAssert(tree, none);
    }

    @Override
    public Void visitBinary(BinaryTree tree, Void none) {
        boolean joins = tree.getKind() == Tree.Kind.PLUS && typeOf(tree).equals("java.lang.String");
        rule(10, "texts joined by +", tree, !joins);
        boolean compares = tree.getKind() == Tree.Kind.EQUAL_TO || tree.getKind() == Tree.Kind.NOT_EQUAL_TO;
        List<String> types = Arrays.asList(typeOf(tree.getLeftOperand()), typeOf(tree.getRightOperand()));
        rule(6, "texts compared by ==", tree, !(compares && types.contains("java.lang.String")));
        boolean divides = tree.getKind() == Tree.Kind.DIVIDE || tree.getKind() == Tree.Kind.REMAINDER;
        rule(7, "divisor " + tree.getRightOperand(), tree, !divides || isSafeDivisor(tree.getRightOperand()));
        return super.visitBinary(tree, none);
    }

    /** A divisor that is written out, or the one variable that has been looked at by a reader. */
    private static boolean isSafeDivisor(ExpressionTree divisor) {
        boolean isWrittenOut = divisor.getKind() == Tree.Kind.INT_LITERAL && !divisor.toString().equals("0");
        return isWrittenOut || divisor.toString().equals("unit");
    }

    @Override
    public Void visitCompoundAssignment(CompoundAssignmentTree tree, Void none) {
        boolean joins = tree.getKind() == Tree.Kind.PLUS_ASSIGNMENT && typeOf(tree).equals("java.lang.String");
        rule(10, "texts joined by +=", tree, !joins);
        return super.visitCompoundAssignment(tree, none);
    }
}
