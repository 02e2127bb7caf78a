import com.sun.source.tree.AssertTree;
import com.sun.source.tree.ClassTree;
import com.sun.source.tree.CompilationUnitTree;
import com.sun.source.tree.ForLoopTree;
import com.sun.source.tree.ImportTree;
import com.sun.source.tree.LambdaExpressionTree;
import com.sun.source.tree.LiteralTree;
import com.sun.source.tree.MemberReferenceTree;
import com.sun.source.tree.MethodInvocationTree;
import com.sun.source.tree.MethodTree;
import com.sun.source.tree.NewArrayTree;
import com.sun.source.tree.NewClassTree;
import com.sun.source.tree.SynchronizedTree;
import com.sun.source.tree.ThrowTree;
import com.sun.source.tree.Tree;
import com.sun.source.tree.TryTree;
import com.sun.source.tree.VariableTree;
import com.sun.source.tree.WhileLoopTree;
import com.sun.source.util.JavacTask;
import com.sun.source.util.TreePathScanner;
import com.sun.source.util.Trees;
import java.io.IOException;
import java.nio.file.Path;
import java.util.HashMap;
import java.util.HashSet;
import java.util.List;
import java.util.Map;
import java.util.Set;
import javax.lang.model.element.Element;
import javax.lang.model.element.ElementKind;
import javax.lang.model.element.Modifier;
import javax.tools.JavaCompiler;
import javax.tools.StandardJavaFileManager;
import javax.tools.ToolProvider;

/**
 * The rules of LANGUAGE.md that can be seen in the program's text; runs in the project's directory.
 * It knows only the part of the rules that the program needs: what goes beyond that, though a rule
 * may allow it, has to be added here first.
 */
public final class LanguageTest extends TreePathScanner<Void, Void> {
    private static final Path PROGRAM = Path.of("src/main/java/ConeDesk.java");
    private static final int MOST_LINES = 60;
    private static final int MOST_PARAMETERS = 7;
    private static final int MOST_CLASSES = 12;
    private static final int MOST_FIELDS = 20;
    private static final int DEEPEST = 8;

    private static final Set<String> LIBRARY = Set.of("java.lang.Math.max", "java.lang.Math.min", "java.lang.Math.abs",
            "java.lang.Integer.bitCount", "java.lang.System.arraycopy", "java.util.Arrays.fill", "java.lang.Object.<init>");
    private static final Set<String> TYPES = Set.of("int", "long", "boolean", "int[]", "long[]");
    private static final Set<String> EXCEPTIONS = Set.of("java.lang.IllegalStateException",
            "java.lang.IllegalArgumentException", "java.lang.IndexOutOfBoundsException");

    private final Checks checks = new Checks();
    private final Map<Element, Set<Element>> calls = new HashMap<>();
    private final Set<String> ownClasses = new HashSet<>();
    private final CompilationUnitTree unit;
    private final Trees trees;
    private Element method;

    private LanguageTest(CompilationUnitTree unit, Trees trees) {
        this.unit = unit;
        this.trees = trees;
    }

    public static void main(String[] args) throws IOException {
        JavaCompiler compiler = ToolProvider.getSystemJavaCompiler();
        try (StandardJavaFileManager files = compiler.getStandardFileManager(null, null, null)) {
            JavacTask task = (JavacTask) compiler.getTask(null, files, null, List.of("-proc:none"), null,
                    files.getJavaFileObjects(PROGRAM));
            CompilationUnitTree unit = task.parse().iterator().next();
            task.analyze();
            LanguageTest test = new LanguageTest(unit, Trees.instance(task));
            test.scan(unit, null);
            test.classes();
            test.depth();
            test.checks.end();
        }
    }

    private void classes() {
        checks.about("rule 11");
        checks.same("no more than " + MOST_CLASSES + " classes", ownClasses.size() <= MOST_CLASSES, true);
        checks.about("the program is one file without a package line");
        checks.same("top classes", unit.getTypeDecls().size(), 1);
        checks.same("package", unit.getPackageName() == null, true);
    }

    // Recursion would show as a depth without an end; the program has none.
    private void depth() {
        checks.about("rules 8 and 11, how deep calls go");
        for (Element start : calls.keySet()) {
            int depth = depthOf(start, 1);
            checks.same(start + " goes " + depth + " deep, which is few enough", depth <= DEEPEST, true);
        }
    }

    private int depthOf(Element from, int above) {
        int deepest = above;
        for (Element next : above > DEEPEST ? Set.<Element>of() : calls.getOrDefault(from, Set.of())) {
            deepest = Math.max(deepest, depthOf(next, above + 1));
        }
        return deepest;
    }

    @Override
    public Void visitImport(ImportTree tree, Void none) {
        checks.about("rule 4");
        checks.same("an import", tree.getQualifiedIdentifier().toString(), "java.util.Arrays");
        return null;
    }

    @Override
    public Void visitClass(ClassTree tree, Void none) {
        Element element = here();
        ownClasses.add(element.toString());
        long fields = tree.getMembers().stream().filter(member -> member instanceof VariableTree field
                && !field.getModifiers().getFlags().contains(Modifier.STATIC)).count();
        checks.about("rule 11");
        checks.same(element + " has few enough fields", fields <= MOST_FIELDS, true);
        checks.about("rule 2");
        checks.same(element + " is final", element.getModifiers().contains(Modifier.FINAL), true);
        return super.visitClass(tree, none);
    }

    @Override
    public Void visitMethod(MethodTree tree, Void none) {
        method = here();
        calls.putIfAbsent(method, new HashSet<>());
        checks.about("rule 11");
        checks.same(method + " takes few enough", tree.getParameters().size() <= MOST_PARAMETERS, true);
        checks.same(method + " is short", lineAfter(tree) - lineOf(tree) <= MOST_LINES, true);
        super.visitMethod(tree, none);
        method = null;
        return null;
    }

    @Override
    public Void visitMethodInvocation(MethodInvocationTree tree, Void none) {
        noteCall(here());
        return super.visitMethodInvocation(tree, none);
    }

    @Override
    public Void visitNewClass(NewClassTree tree, Void none) {
        Element made = here();
        if (!EXCEPTIONS.contains(made.getEnclosingElement().toString())) {
            checks.about("rule 12, kept by making objects in constructors alone");
            checks.same(tree + " stands in a constructor", isInMaking(), true);
            noteCall(made);
        }
        return super.visitNewClass(tree, none);
    }

    @Override
    public Void visitNewArray(NewArrayTree tree, Void none) {
        checks.about("rule 12, kept by making arrays in constructors alone");
        checks.same(tree + " stands in a constructor", isInMaking(), true);
        return super.visitNewArray(tree, none);
    }

    private boolean isInMaking() {
        return method == null || method.getKind() == ElementKind.CONSTRUCTOR;
    }

    private void noteCall(Element called) {
        if (called.getEnclosingElement().toString().startsWith("ConeDesk")) {
            if (method != null) {
                calls.get(method).add(called);
            }
        } else {
            checks.about("rule 4");
            String name = called.getEnclosingElement() + "." + called.getSimpleName();
            checks.same(name + " is in the part of the library", LIBRARY.contains(name), true);
        }
    }

    @Override
    public Void visitThrow(ThrowTree tree, Void none) {
        checks.about("rule 6");
        boolean plain = tree.getExpression() instanceof NewClassTree made
                && EXCEPTIONS.contains("java.lang." + made.getIdentifier())
                && made.getArguments().stream().allMatch(text -> text instanceof LiteralTree);
        checks.same(tree + " is plain", plain, true);
        checks.same(tree + " stands in no constructor", isInMaking(), false);
        return super.visitThrow(tree, none);
    }

    @Override
    public Void visitVariable(VariableTree tree, Void none) {
        Element element = here();
        checks.about("rule 3");
        String type = element.asType().toString();
        checks.same(tree + " has a type of these", TYPES.contains(type) || type.startsWith("ConeDesk."), true);
        if (element.getModifiers().contains(Modifier.STATIC)) {
            checks.about("rule 5");
            checks.same(tree + " is final", element.getModifiers().contains(Modifier.FINAL), true);
        }
        return super.visitVariable(tree, none);
    }

    @Override
    public Void visitForLoop(ForLoopTree tree, Void none) {
        checks.about("rule 9");
        checks.same(tree.getInitializer() + " has a bound and a step",
                tree.getCondition() != null && tree.getUpdate().size() == 1, true);
        return super.visitForLoop(tree, none);
    }

    @Override
    public Void visitWhileLoop(WhileLoopTree tree, Void none) {
        checks.about("rule 9");
        checks.same(tree.getCondition() + " tests something", tree.getCondition().toString().contains("true"), false);
        return super.visitWhileLoop(tree, none);
    }

    @Override
    public Void visitLambdaExpression(LambdaExpressionTree tree, Void none) {
        return refuse("rule 2", tree);
    }

    @Override
    public Void visitMemberReference(MemberReferenceTree tree, Void none) {
        return refuse("rule 2", tree);
    }

    @Override
    public Void visitTry(TryTree tree, Void none) {
        return refuse("rule 6", tree);
    }

    @Override
    public Void visitSynchronized(SynchronizedTree tree, Void none) {
        return refuse("rule 6", tree);
    }

    @Override
    public Void visitAssert(AssertTree tree, Void none) {
        return refuse("rule 6", tree);
    }

    private Void refuse(String rule, Tree tree) {
        checks.about(rule);
        checks.same(tree.toString(), "there", "not there");
        return null;
    }

    private Element here() {
        return trees.getElement(getCurrentPath());
    }

    private long lineOf(Tree tree) {
        return unit.getLineMap().getLineNumber(trees.getSourcePositions().getStartPosition(unit, tree));
    }

    // What javac adds by itself, such as a constructor, has no end in the text.
    private long lineAfter(Tree tree) {
        long end = trees.getSourcePositions().getEndPosition(unit, tree);
        return end < 0 ? lineOf(tree) : unit.getLineMap().getLineNumber(end);
    }
}
