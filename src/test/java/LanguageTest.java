import com.sun.source.tree.ArrayAccessTree;
import com.sun.source.tree.AssertTree;
import com.sun.source.tree.BinaryTree;
import com.sun.source.tree.CatchTree;
import com.sun.source.tree.ClassTree;
import com.sun.source.tree.CompilationUnitTree;
import com.sun.source.tree.CompoundAssignmentTree;
import com.sun.source.tree.ExpressionTree;
import com.sun.source.tree.ImportTree;
import com.sun.source.tree.LambdaExpressionTree;
import com.sun.source.tree.LineMap;
import com.sun.source.tree.LiteralTree;
import com.sun.source.tree.MemberReferenceTree;
import com.sun.source.tree.MethodInvocationTree;
import com.sun.source.tree.MethodTree;
import com.sun.source.tree.NewArrayTree;
import com.sun.source.tree.NewClassTree;
import com.sun.source.tree.SynchronizedTree;
import com.sun.source.tree.ThrowTree;
import com.sun.source.tree.Tree;
import com.sun.source.tree.TryTree;
import com.sun.source.tree.TypeCastTree;
import com.sun.source.tree.VariableTree;
import com.sun.source.util.JavacTask;
import com.sun.source.util.TreePath;
import com.sun.source.util.TreePathScanner;
import com.sun.source.util.Trees;
import java.nio.file.Files;
import java.nio.file.Path;
import java.util.HashMap;
import java.util.List;
import java.util.Map;
import java.util.Set;
import java.util.TreeMap;
import java.util.TreeSet;
import javax.lang.model.element.Element;
import javax.lang.model.element.ElementKind;
import javax.lang.model.element.Modifier;
import javax.lang.model.element.VariableElement;
import javax.lang.model.type.TypeKind;
import javax.lang.model.type.TypeMirror;
import javax.tools.JavaCompiler;
import javax.tools.StandardJavaFileManager;
import javax.tools.ToolProvider;

/** Those rules of LANGUAGE.md that the compiler's tree of the file can tell, by their numbers there. */
public final class LanguageTest extends TreePathScanner<Void, Void> {
    private static final Path FILE = Path.of("src/main/java/OnceDisc.java");
    // A method of the face, and calls that go eight deep from it.
    private static final int DEEPEST = 9;
    // The rules say "some" of these numbers; what is far beyond them is surely a mistake.
    private static final int LINES = 70;
    private static final int CLASSES = 14;
    private static final int FIELDS = 24;
    private static final Set<String> THROWN = Set.of("IllegalStateException", "IllegalArgumentException",
        "IndexOutOfBoundsException", "ArithmeticException", "UnsupportedOperationException", "NoSuchElementException",
        "RuntimeException");
    private static final Map<String, Set<String>> LIBRARY = Map.of(
        "String", Set.of("<init>", "length", "charAt", "isEmpty", "equals", "indexOf", "substring", "toCharArray"),
        "StringBuilder", Set.of("<init>", "append", "charAt", "setCharAt", "setLength", "deleteCharAt", "reverse", "length",
            "toString"),
        "ArrayList", Set.of("<init>", "add", "get", "set", "remove", "size", "isEmpty", "clear"),
        "List", Set.of("add", "get", "set", "remove", "size", "isEmpty", "clear", "of"),
        "System", Set.of("arraycopy"),
        "Arrays", Set.of("copyOf", "copyOfRange", "fill"));
    private static final Set<String> NUMBERS = Set.of("Integer", "Long", "Math");
    private static final Set<String> OPEN = Set.of("Iterator", "Iterable", "Comparable", "Enum", "Array");

    // These look at the index themselves; nothing else in the file takes an element of a row.
    private static final Set<String> ROWS = Set.of("at", "isSet", "put", "mark", "fill", "copy", "indexOf", "storeIn",
        "loadFrom");
    // It makes the discs that are kept, one for each place.
    private static final String MAKER = "storeIn";

    private final Trees trees;
    private final LineMap lines;
    private final CompilationUnitTree unit;
    private final Map<String, Set<String>> calls = new TreeMap<>();
    private final Map<String, Integer> depths = new HashMap<>();
    private int classes = 0;

    private LanguageTest(Trees trees, CompilationUnitTree unit) {
        this.trees = trees;
        this.unit = unit;
        this.lines = unit.getLineMap();
    }

    public static void main(String[] args) throws Exception {
        JavaCompiler compiler = ToolProvider.getSystemJavaCompiler();
        try (StandardJavaFileManager files = compiler.getStandardFileManager(null, null, null)) {
            JavacTask task = (JavacTask) compiler.getTask(null, files, null, List.of("-proc:none"), null,
                files.getJavaFileObjects(FILE));
            CompilationUnitTree unit = task.parse().iterator().next();
            task.analyze();
            new LanguageTest(Trees.instance(task), unit).run();
        }
        for (char sign : Files.readString(FILE).toCharArray()) {
            Check.isTrue("rule 3: the sign " + (int) sign + " is one of 1 to 127", sign >= 1 && sign <= 127);
        }
        Check.end();
    }

    private void run() {
        scan(unit, null);
        Check.isTrue("rule 1: the file has no package line", unit.getPackageName() == null);
        Check.isTrue("rule 11: " + classes + " classes are some twelve at most", classes <= CLASSES);
        for (String method : calls.keySet()) {
            int depth = depthOf(method, new TreeSet<>());
            Check.isTrue("rule 11: the calls from " + method + " go " + depth + " deep", depth <= DEEPEST);
        }
    }

    private int depthOf(String method, Set<String> open) {
        if (!depths.containsKey(method)) {
            open.add(method);
            int deepest = 0;
            for (String called : calls.getOrDefault(method, Set.of())) {
                // A method that is open is a recursion, which another rule is about.
                deepest = open.contains(called) ? deepest : Math.max(deepest, depthOf(called, open));
            }
            open.remove(method);
            depths.put(method, deepest + 1);
        }
        return depths.get(method);
    }

    private void rule(int number, Tree tree, String what, boolean kept) {
        long line = lines.getLineNumber(trees.getSourcePositions().getStartPosition(unit, tree));
        Check.isTrue("rule " + number + ", line " + line + ": " + what, kept);
    }

    private Element element(Tree tree) {
        return trees.getElement(new TreePath(getCurrentPath(), tree));
    }

    private TypeMirror type(Tree tree) {
        return trees.getTypeMirror(new TreePath(getCurrentPath(), tree));
    }

    /** A method's class, name and parameters. */
    private static String nameOf(Element method) {
        return method.getEnclosingElement().getSimpleName() + "." + method;
    }

    private MethodTree methodAround() {
        for (TreePath path = getCurrentPath(); path != null; path = path.getParentPath()) {
            if (path.getLeaf() instanceof MethodTree method) {
                return method;
            }
        }
        return null;
    }

    private void noteCall(Element called) {
        MethodTree caller = methodAround();
        if (caller != null && isOwn(called)) {
            calls.get(nameOf(trees.getElement(trees.getPath(unit, caller)))).add(nameOf(called));
        }
    }

    private static boolean isOwn(Element element) {
        Element outer = element;
        while (outer.getEnclosingElement().getKind() != ElementKind.PACKAGE) {
            outer = outer.getEnclosingElement();
        }
        return outer.getSimpleName().contentEquals("OnceDisc");
    }

    @Override
    public Void visitClass(ClassTree tree, Void unused) {
        classes++;
        int fields = 0;
        for (Tree member : tree.getMembers()) {
            if (member instanceof VariableTree field && !field.getModifiers().getFlags().contains(Modifier.STATIC)) {
                fields++;
            }
            rule(5, member, "no static initialiser", member.getKind() != Tree.Kind.BLOCK);
        }
        rule(11, tree, "a class has some twenty fields at most", fields <= FIELDS);
        return super.visitClass(tree, unused);
    }

    @Override
    public Void visitMethod(MethodTree tree, Void unused) {
        calls.put(nameOf(trees.getElement(getCurrentPath())), new TreeSet<>());
        long first = lines.getLineNumber(trees.getSourcePositions().getStartPosition(unit, tree));
        long last = lines.getLineNumber(trees.getSourcePositions().getEndPosition(unit, tree));
        rule(11, tree, tree.getName() + " has some sixty lines at most", last - first < LINES);
        rule(11, tree, tree.getName() + " has at most 7 parameters", tree.getParameters().size() <= 7);
        return super.visitMethod(tree, unused);
    }

    @Override
    public Void visitMethodInvocation(MethodInvocationTree tree, Void unused) {
        Element called = element(tree.getMethodSelect());
        noteCall(called);
        String owner = called.getEnclosingElement().getSimpleName().toString();
        String name = called.getSimpleName().toString();
        MethodTree around = methodAround();
        boolean implicit = name.equals("<init>") && around != null && around.getReturnType() == null;
        boolean allowed = implicit || isOwn(called) || isAllowed(owner, name);
        rule(4, tree, owner + "." + name + " is of the library that is allowed", allowed);
        return super.visitMethodInvocation(tree, unused);
    }

    private static boolean isAllowed(String owner, String name) {
        return OPEN.contains(owner) || LIBRARY.getOrDefault(owner, Set.of()).contains(name)
            || NUMBERS.contains(owner) && !name.endsWith("Exact");
    }

    @Override
    public Void visitNewClass(NewClassTree tree, Void unused) {
        Element made = element(tree);
        String name = made.getEnclosingElement().getSimpleName().toString();
        noteCall(made);
        boolean thrown = THROWN.contains(name);
        rule(12, tree, "new " + name + " in a call", thrown || mayMake());
        rule(4, tree, "new " + name, isOwn(made) || thrown || isAllowed(name, "<init>"));
        rule(6, tree, "an exception has at most a text", !thrown || tree.getArguments().size() <= 1);
        for (ExpressionTree argument : thrown ? tree.getArguments() : List.<ExpressionTree>of()) {
            rule(6, tree, "the text of an exception is written", argument instanceof LiteralTree);
        }
        return super.visitNewClass(tree, unused);
    }

    private static boolean isConstant(Element element) {
        return element instanceof VariableElement field && field.getConstantValue() != null;
    }

    /** Whether what is made here is made for a whole object, or for a place that keeps it. */
    private boolean mayMake() {
        MethodTree around = methodAround();
        return around == null || around.getReturnType() == null || around.getName().contentEquals(MAKER);
    }

    @Override
    public Void visitNewArray(NewArrayTree tree, Void unused) {
        rule(12, tree, "an array is made in a call", mayMake());
        for (ExpressionTree length : tree.getDimensions()) {
            boolean written = isNumberAboveZero(length) || length instanceof BinaryTree product
                && product.getKind() == Tree.Kind.MULTIPLY && isNumberAboveZero(product.getLeftOperand())
                && isNumberAboveZero(product.getRightOperand());
            rule(7, length, "the length of an array is made of constants above 0", written);
        }
        return super.visitNewArray(tree, unused);
    }

    @Override
    public Void visitArrayAccess(ArrayAccessTree tree, Void unused) {
        MethodTree around = methodAround();
        rule(7, tree, "an element is taken by a method that looks at the index",
            around != null && ROWS.contains(around.getName().toString()));
        return super.visitArrayAccess(tree, unused);
    }

    @Override
    public Void visitTypeCast(TypeCastTree tree, Void unused) {
        rule(7, tree, "only numbers are cast", type(tree).getKind().isPrimitive());
        return super.visitTypeCast(tree, unused);
    }

    private boolean isNumberAboveZero(ExpressionTree tree) {
        Object value = tree instanceof LiteralTree literal ? literal.getValue()
            : element(tree) instanceof VariableElement field ? field.getConstantValue() : null;
        return value instanceof Integer number && number > 0;
    }

    private void checkDivisor(Tree tree, ExpressionTree divisor) {
        boolean real = type(divisor).getKind() == TypeKind.DOUBLE;
        rule(7, tree, "a divisor is a constant above 0", real || isNumberAboveZero(divisor));
    }

    @Override
    public Void visitBinary(BinaryTree tree, Void unused) {
        if (tree.getKind() == Tree.Kind.DIVIDE || tree.getKind() == Tree.Kind.REMAINDER) {
            checkDivisor(tree, tree.getRightOperand());
        }
        rule(10, tree, "texts are not joined by +", !type(tree).toString().equals("java.lang.String"));
        return super.visitBinary(tree, unused);
    }

    @Override
    public Void visitCompoundAssignment(CompoundAssignmentTree tree, Void unused) {
        if (tree.getKind() == Tree.Kind.DIVIDE_ASSIGNMENT || tree.getKind() == Tree.Kind.REMAINDER_ASSIGNMENT) {
            checkDivisor(tree, tree.getExpression());
        }
        rule(10, tree, "texts are not joined by +=", !type(tree.getVariable()).toString().equals("java.lang.String"));
        return super.visitCompoundAssignment(tree, unused);
    }

    @Override
    public Void visitVariable(VariableTree tree, Void unused) {
        Set<Modifier> flags = tree.getModifiers().getFlags();
        Element variable = trees.getElement(getCurrentPath());
        boolean kept = isConstant(variable) || variable.asType().getKind() == TypeKind.ARRAY
            || variable.getKind() == ElementKind.ENUM_CONSTANT;
        rule(5, tree, "a static field is a constant",
                !flags.contains(Modifier.STATIC) || flags.contains(Modifier.FINAL) && kept);
        return super.visitVariable(tree, unused);
    }

    @Override
    public Void visitThrow(ThrowTree tree, Void unused) {
        MethodTree method = methodAround();
        rule(6, tree, "no throw in a constructor", method != null && method.getReturnType() != null);
        return super.visitThrow(tree, unused);
    }

    @Override
    public Void visitImport(ImportTree tree, Void unused) {
        rule(4, tree, "nothing but java.util is imported",
                tree.getQualifiedIdentifier().toString().startsWith("java.util."));
        return null;
    }

    @Override
    public Void visitLambdaExpression(LambdaExpressionTree tree, Void unused) {
        rule(2, tree, "no lambda", false);
        return null;
    }

    @Override
    public Void visitMemberReference(MemberReferenceTree tree, Void unused) {
        rule(2, tree, "no method reference", false);
        return null;
    }

    @Override
    public Void visitTry(TryTree tree, Void unused) {
        rule(6, tree, "no finally, no try with resources", tree.getFinallyBlock() == null && tree.getResources().isEmpty());
        for (CatchTree caught : tree.getCatches()) {
            for (String name : caught.getParameter().getType().toString().split("\\|")) {
                rule(6, caught, name + " is not caught", THROWN.contains(name.trim()));
            }
        }
        return super.visitTry(tree, unused);
    }

    @Override
    public Void visitSynchronized(SynchronizedTree tree, Void unused) {
        rule(6, tree, "no synchronized", false);
        return null;
    }

    @Override
    public Void visitAssert(AssertTree tree, Void unused) {
        rule(6, tree, "no assert", false);
        return null;
    }
}
