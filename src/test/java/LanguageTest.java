import com.sun.source.tree.AssertTree;
import com.sun.source.tree.BinaryTree;
import com.sun.source.tree.BlockTree;
import com.sun.source.tree.ClassTree;
import com.sun.source.tree.CompilationUnitTree;
import com.sun.source.tree.DoWhileLoopTree;
import com.sun.source.tree.ForLoopTree;
import com.sun.source.tree.LambdaExpressionTree;
import com.sun.source.tree.MemberReferenceTree;
import com.sun.source.tree.MethodInvocationTree;
import com.sun.source.tree.MethodTree;
import com.sun.source.tree.NewArrayTree;
import com.sun.source.tree.NewClassTree;
import com.sun.source.tree.SynchronizedTree;
import com.sun.source.tree.ThrowTree;
import com.sun.source.tree.Tree;
import com.sun.source.tree.TryTree;
import com.sun.source.tree.VariableTree;
import com.sun.source.tree.WhileLoopTree;
import com.sun.source.util.JavacTask;
import com.sun.source.util.TreePath;
import com.sun.source.util.TreePathScanner;
import com.sun.source.util.Trees;
import java.io.IOException;
import java.nio.file.Path;
import java.util.ArrayList;
import java.util.HashMap;
import java.util.HashSet;
import java.util.List;
import java.util.Map;
import java.util.Set;
import javax.lang.model.element.Element;
import javax.lang.model.element.ElementKind;
import javax.lang.model.element.ExecutableElement;
import javax.lang.model.element.Modifier;
import javax.lang.model.element.TypeElement;
import javax.tools.JavaCompiler;
import javax.tools.StandardJavaFileManager;
import javax.tools.ToolProvider;

/** Those rules of LANGUAGE.md that can be seen in the source: each class, method, variable and call is looked at. */
public final class LanguageTest extends TreePathScanner<Void, Void> {
    private static final int MOST_PARAMETERS = 7;
    /** "Some sixty lines", "some twelve classes", "some twenty fields". */
    private static final int MOST_LINES = 65;
    private static final int MOST_CLASSES = 13;
    private static final int MOST_FIELDS = 22;
    private static final int MOST_CALLS_DEEP = 8;

    private static final Map<String, Set<String>> LIBRARY = Map.of(
        "java.lang.Object", Set.of("<init>"),
        "java.lang.String", Set.of("length", "charAt", "isEmpty", "equals", "indexOf", "substring", "toCharArray",
            "<init>"),
        "java.lang.StringBuilder", Set.of("<init>", "append", "charAt", "setCharAt", "setLength", "deleteCharAt",
            "reverse", "length", "toString"),
        "java.lang.System", Set.of("arraycopy"),
        "java.util.Arrays", Set.of("copyOf", "copyOfRange", "fill"),
        "java.lang.Math", Set.of("max", "min", "abs", "floorDiv", "floorMod"),
        "java.lang.Integer", Set.of("compare", "max", "min", "bitCount"),
        "java.lang.Long", Set.of("compare", "max", "min", "bitCount"),
        "java.util.ArrayList", Set.of("<init>", "add", "get", "set", "remove", "size", "isEmpty", "clear"),
        "java.util.List", Set.of("add", "get", "set", "remove", "size", "isEmpty", "clear", "of"));

    private final Trees trees;
    private final CompilationUnitTree unit;
    private final Map<Element, Set<Element>> calls = new HashMap<>();
    private int classes = 0;

    private LanguageTest(Trees trees, CompilationUnitTree unit) {
        this.trees = trees;
        this.unit = unit;
    }

    /** The path of the source is the argument; without it the project's own is taken. */
    public static void main(String[] args) throws IOException {
        Path path = Path.of(args.length > 0 ? args[0] : "src/main/java/PocketCards.java");
        JavaCompiler compiler = ToolProvider.getSystemJavaCompiler();
        try (StandardJavaFileManager files = compiler.getStandardFileManager(null, null, null)) {
            JavacTask task = (JavacTask) compiler.getTask(null, files, null, null, null,
                files.getJavaFileObjects(path));
            CompilationUnitTree unit = task.parse().iterator().next();
            task.analyze();
            LanguageTest test = new LanguageTest(Trees.instance(task), unit);
            test.scan(unit, null);
            test.depths();
            Checks.sentence("rule 11: classes");
            test.due("at most some twelve classes", test.classes <= MOST_CLASSES);
        }
        Checks.end("LanguageTest");
    }

    private void due(String what, boolean got) {
        Checks.due(what, got ? 1 : 0, 1);
    }

    private String here() {
        long start = trees.getSourcePositions().getStartPosition(unit, getCurrentPath().getLeaf());
        return "line " + unit.getLineMap().getLineNumber(start) + ": ";
    }

    private Element element() {
        return trees.getElement(getCurrentPath());
    }

    private boolean isString(Tree tree) {
        return "java.lang.String".equals(String.valueOf(trees.getTypeMirror(TreePath.getPath(unit, tree))));
    }

    @Override
    public Void visitClass(ClassTree tree, Void none) {
        classes++;
        Element element = element();
        Checks.sentence("rule 2: classes inside");
        boolean isTop = !(element.getEnclosingElement() instanceof TypeElement);
        due(here() + "a named class of a class", isTop == tree.getSimpleName().contentEquals("PocketCards"));
        due(here() + "static", isTop || element.getModifiers().contains(Modifier.STATIC));
        Checks.sentence("rule 5: no static initialiser block");
        long fields = 0;
        for (Tree member : tree.getMembers()) {
            due(here() + "no block", !(member instanceof BlockTree));
            fields += member instanceof VariableTree field
                && !field.getModifiers().getFlags().contains(Modifier.STATIC) ? 1 : 0;
        }
        Checks.sentence("rule 11: fields");
        due(here() + "some twenty fields", fields <= MOST_FIELDS);
        return super.visitClass(tree, none);
    }

    @Override
    public Void visitMethod(MethodTree tree, Void none) {
        Checks.sentence("rule 11: a method");
        due(here() + "at most seven parameters", tree.getParameters().size() <= MOST_PARAMETERS);
        long start = trees.getSourcePositions().getStartPosition(unit, tree);
        long end = trees.getSourcePositions().getEndPosition(unit, tree);
        long lines = end < 0 ? 0 : unit.getLineMap().getLineNumber(end) - unit.getLineMap().getLineNumber(start) + 1;
        due(here() + "some sixty lines", lines <= MOST_LINES);
        Checks.sentence("rule 6: no equals, hashCode or toString of your own");
        due(here() + "another name", !Set.of("equals", "hashCode", "toString").contains(tree.getName().toString()));
        calls.computeIfAbsent(element(), method -> new HashSet<>());
        return super.visitMethod(tree, none);
    }

    @Override
    public Void visitVariable(VariableTree tree, Void none) {
        Element element = element();
        String type = element.asType().toString();
        Checks.sentence("rule 3: types");
        due(here() + "the type " + type, isAllowed(type));
        Checks.sentence("rule 5: static fields are final constants");
        boolean isStatic = element.getKind() == ElementKind.FIELD && element.getModifiers().contains(Modifier.STATIC);
        due(here() + "final", !isStatic || element.getModifiers().contains(Modifier.FINAL));
        due(here() + "a constant", !isStatic
            || Set.of("int", "long", "boolean", "char", "java.lang.String", "int[]", "long[]", "char[]", "byte[]")
                .contains(type));
        return super.visitVariable(tree, none);
    }

    private static boolean isAllowed(String type) {
        String plain = "(int|long|short|byte|char|boolean|double|float)";
        String own = "PocketCards(\\.\\w+)?(<.*>)?";
        return type.matches(plain + "(\\[\\]){0,2}") || type.matches("(" + own + "|java\\.lang\\.String)(\\[\\])?")
            || type.matches("java\\.lang\\.(StringBuilder|Integer)")
            || type.matches("java\\.util\\.(ArrayList|List)<(" + own + "|java\\.lang\\.Integer)>");
    }

    @Override
    public Void visitMethodInvocation(MethodInvocationTree tree, Void none) {
        called((ExecutableElement) element());
        return super.visitMethodInvocation(tree, none);
    }

    @Override
    public Void visitNewClass(NewClassTree tree, Void none) {
        Checks.sentence("rule 2: no anonymous class");
        due(here() + "no body", tree.getClassBody() == null);
        made();
        called((ExecutableElement) element());
        return super.visitNewClass(tree, none);
    }

    @Override
    public Void visitNewArray(NewArrayTree tree, Void none) {
        made();
        return super.visitNewArray(tree, none);
    }

    /** Stricter than the rule: no call makes anything, so that a run makes just its objects of the class. */
    private void made() {
        Checks.sentence("rule 12: what a run makes is counted");
        due(here() + "made by a constructor or a first value", caller().getKind() != ElementKind.METHOD);
    }

    @Override
    public Void visitForLoop(ForLoopTree tree, Void none) {
        loop(tree.getCondition());
        return super.visitForLoop(tree, none);
    }

    @Override
    public Void visitWhileLoop(WhileLoopTree tree, Void none) {
        loop(tree.getCondition());
        return super.visitWhileLoop(tree, none);
    }

    @Override
    public Void visitDoWhileLoop(DoWhileLoopTree tree, Void none) {
        loop(tree.getCondition());
        return super.visitDoWhileLoop(tree, none);
    }

    /** A rough look: there is a comparison, and no part beside it by which the loop goes on. */
    private void loop(Tree condition) {
        Checks.sentence("rule 9: every loop has an end that can be seen from its own lines");
        String words = String.valueOf(condition);
        due(here() + "a counter against a bound", words.matches("(?s).* [<>]=? .*") && !words.contains("||"));
    }

    private void called(ExecutableElement method) {
        String owner = ((TypeElement) method.getEnclosingElement()).getQualifiedName().toString();
        if (owner.equals("PocketCards") || owner.startsWith("PocketCards.")) {
            calls.computeIfAbsent(caller(), one -> new HashSet<>()).add(method);
            return;
        }
        Checks.sentence("rule 4: the library");
        due(here() + owner + "." + method.getSimpleName(),
            LIBRARY.getOrDefault(owner, Set.of()).contains(method.getSimpleName().toString()));
    }

    /** The method around, or the class, if a field is given its first value. */
    private Element caller() {
        TreePath path = getCurrentPath();
        while (!(path.getLeaf() instanceof MethodTree) && !(path.getLeaf() instanceof ClassTree)) {
            path = path.getParentPath();
        }
        return trees.getElement(path);
    }

    @Override
    public Void visitBinary(BinaryTree tree, Void none) {
        Checks.sentence("rule 10: texts are not joined by +; rule 6: == and != never between two texts");
        boolean isOfTexts = isString(tree.getLeftOperand()) || isString(tree.getRightOperand());
        due(here() + "no operator on texts", !isOfTexts);
        return super.visitBinary(tree, none);
    }

    private Void forbidden(String what) {
        Checks.sentence("rules 2 and 6: not in the language");
        due(here() + what, false);
        return null;
    }

    @Override
    public Void visitThrow(ThrowTree tree, Void none) {
        return forbidden("throw");
    }

    @Override
    public Void visitTry(TryTree tree, Void none) {
        return forbidden("try");
    }

    @Override
    public Void visitSynchronized(SynchronizedTree tree, Void none) {
        return forbidden("synchronized");
    }

    @Override
    public Void visitAssert(AssertTree tree, Void none) {
        return forbidden("assert");
    }

    @Override
    public Void visitLambdaExpression(LambdaExpressionTree tree, Void none) {
        return forbidden("lambda");
    }

    @Override
    public Void visitMemberReference(MemberReferenceTree tree, Void none) {
        return forbidden("method reference");
    }

    /** A method that calls itself counts once, and no methods call one another round about. */
    private void depths() {
        for (Element method : new ArrayList<>(calls.keySet())) {
            Checks.sentence("rule 8: recursion is that of a private static method that calls itself");
            due(method + " calls itself", !calls.get(method).contains(method)
                || method.getModifiers().contains(Modifier.STATIC) && method.getModifiers().contains(Modifier.PRIVATE));
            Checks.sentence("rule 11: calls that are no recursion go at most eight deep");
            int depth = depth(method, new ArrayList<>());
            due(method + " goes " + depth + " deep", depth <= MOST_CALLS_DEEP);
        }
    }

    private int depth(Element method, List<Element> open) {
        if (open.contains(method)) {
            due(open + " call one another", open.indexOf(method) == open.size() - 1);
            return 0;
        }
        open.add(method);
        int most = 0;
        for (Element called : calls.getOrDefault(method, Set.of())) {
            most = Math.max(most, depth(called, open));
        }
        open.remove(method);
        return most + 1;
    }
}
