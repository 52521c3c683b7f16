import com.sun.source.tree.ArrayAccessTree;
import com.sun.source.tree.AssignmentTree;
import com.sun.source.tree.BlockTree;
import com.sun.source.tree.ClassTree;
import com.sun.source.tree.CompilationUnitTree;
import com.sun.source.tree.CompoundAssignmentTree;
import com.sun.source.tree.ExpressionTree;
import com.sun.source.tree.ForLoopTree;
import com.sun.source.tree.MethodInvocationTree;
import com.sun.source.tree.MethodTree;
import com.sun.source.tree.NewArrayTree;
import com.sun.source.tree.NewClassTree;
import com.sun.source.tree.Tree;
import com.sun.source.tree.UnaryTree;
import com.sun.source.tree.VariableTree;
import com.sun.source.util.JavacTask;
import com.sun.source.util.TreePathScanner;
import com.sun.source.util.Trees;
import java.io.IOException;
import java.nio.file.Path;
import java.util.ArrayList;
import java.util.EnumSet;
import java.util.LinkedHashMap;
import java.util.LinkedHashSet;
import java.util.List;
import java.util.Map;
import java.util.Set;
import java.util.TreeSet;
import javax.lang.model.element.Element;
import javax.lang.model.element.ExecutableElement;
import javax.lang.model.element.Modifier;
import javax.lang.model.element.TypeElement;
import javax.lang.model.element.VariableElement;
import javax.lang.model.type.TypeMirror;
import javax.tools.JavaCompiler;
import javax.tools.StandardJavaFileManager;
import javax.tools.ToolProvider;

/** The rules of LANGUAGE.md that need the source as the compiler sees it: who calls whom, what is used of the library. */
public final class RulesTest extends TreePathScanner<Void, Void> {
    /** Rules 2, 6, 9 and 10: what does not stand anywhere in the class. Of loops there is only the counted one. */
    private static final Set<Tree.Kind> NEVER = EnumSet.of(Tree.Kind.LAMBDA_EXPRESSION, Tree.Kind.MEMBER_REFERENCE,
        Tree.Kind.THROW, Tree.Kind.TRY, Tree.Kind.CATCH, Tree.Kind.SYNCHRONIZED, Tree.Kind.ASSERT, Tree.Kind.WHILE_LOOP,
        Tree.Kind.DO_WHILE_LOOP, Tree.Kind.ANNOTATION, Tree.Kind.IMPORT, Tree.Kind.PACKAGE, Tree.Kind.INSTANCE_OF);
    /** Rule 4, of which the class uses no more than this. */
    private static final Set<String> LIBRARY = Set.of("java.lang.Math.max", "java.lang.Math.min",
        "java.lang.Integer.bitCount", "java.lang.System.arraycopy", "java.lang.String.length", "java.lang.String.charAt");
    /** Rule 3. */
    private static final Set<String> PLAIN_TYPES = Set.of("int", "long", "short", "byte", "char", "boolean",
        "java.lang.String");
    private static final Check C = new Check("RulesTest");

    private final Trees trees;
    private final Map<ExecutableElement, Set<ExecutableElement>> calls = new LinkedHashMap<>();
    private ExecutableElement within;

    private RulesTest(Trees trees) {
        this.trees = trees;
    }

    public static void main(String[] args) throws IOException {
        JavaCompiler compiler = ToolProvider.getSystemJavaCompiler();
        try (StandardJavaFileManager files = compiler.getStandardFileManager(null, null, null)) {
            JavacTask task = (JavacTask) compiler.getTask(null, files, null, List.of("--release", "17"), null,
                files.getJavaFileObjects(Path.of(args.length > 0 ? args[0] : "src/main/java/AnswerDays.java")));
            RulesTest rules = new RulesTest(Trees.instance(task));
            Iterable<? extends CompilationUnitTree> units = task.parse();
            task.analyze();
            for (CompilationUnitTree unit : units) {
                rules.scan(unit, null);
            }
            rules.depths();
            rules.recursion();
            C.due("methods were found", rules.calls.size() > 100);
        }
        C.close();
    }

    @Override
    public Void scan(Tree tree, Void with) {
        if (tree != null && NEVER.contains(tree.getKind())) {
            C.due(within + ": no " + tree.getKind(), false);
        }
        return super.scan(tree, with);
    }

    @Override
    public Void visitClass(ClassTree tree, Void with) {
        Element element = trees.getElement(getCurrentPath());
        boolean outer = tree.getSimpleName().contentEquals("AnswerDays");
        C.due("rule 2: " + tree.getSimpleName() + " is a static class", tree.getKind() == Tree.Kind.CLASS
            && (outer || element.getModifiers().contains(Modifier.STATIC) && element.getEnclosingElement() instanceof TypeElement));
        for (Tree member : tree.getMembers()) {
            C.due("rule 5: no initialiser block in " + tree.getSimpleName(), !(member instanceof BlockTree));
        }
        Set<String> open = new TreeSet<>();
        Set<String> hidden = new TreeSet<>();
        for (Element member : element.getEnclosedElements()) {
            if (member instanceof ExecutableElement && outer) {
                (member.getModifiers().contains(Modifier.PRIVATE) ? hidden : open).add(member.getSimpleName().toString());
            }
        }
        hidden.retainAll(open);
        C.due("rule 1: no private method bears the name of a public one: " + hidden, hidden.isEmpty());
        return super.visitClass(tree, with);
    }

    @Override
    public Void visitMethod(MethodTree tree, Void with) {
        within = (ExecutableElement) trees.getElement(getCurrentPath());
        calls.putIfAbsent(within, new LinkedHashSet<>());
        C.due("rule 11: " + within + " has at most seven parameters", tree.getParameters().size() <= 7);
        super.visitMethod(tree, with);
        within = null;
        return null;
    }

    @Override
    public Void visitVariable(VariableTree tree, Void with) {
        VariableElement element = (VariableElement) trees.getElement(getCurrentPath());
        TypeMirror type = element.asType();
        C.due("rule 3: the type of " + element + ", " + type, isOwn(type.toString().replace("[]", ""))
            || PLAIN_TYPES.contains(type.toString().replaceFirst("\\[\\]", "")));
        if (element.getModifiers().contains(Modifier.STATIC)) {
            boolean row = type.toString().equals("int[]");
            C.due("rule 5: " + element + " is a constant", element.getModifiers().contains(Modifier.FINAL)
                && (row ? tree.getInitializer() instanceof NewArrayTree : element.getConstantValue() != null));
        }
        return super.visitVariable(tree, with);
    }

    @Override
    public Void visitMethodInvocation(MethodInvocationTree tree, Void with) {
        note((ExecutableElement) trees.getElement(getCurrentPath()));
        return super.visitMethodInvocation(tree, with);
    }

    @Override
    public Void visitNewClass(NewClassTree tree, Void with) {
        C.due("rule 2: no anonymous class", tree.getClassBody() == null);
        note((ExecutableElement) trees.getElement(getCurrentPath()));
        return super.visitNewClass(tree, with);
    }

    private void note(ExecutableElement called) {
        String owner = ((TypeElement) called.getEnclosingElement()).getQualifiedName().toString();
        if (isOwn(owner)) {
            if (within != null) {
                calls.get(within).add(called);
            }
        } else {
            boolean ofObject = owner.equals("java.lang.Object") && called.getSimpleName().contentEquals("<init>");
            C.due("rule 4: " + owner + "." + called, ofObject || LIBRARY.contains(owner + "." + called.getSimpleName()));
        }
    }

    @Override
    public Void visitForLoop(ForLoopTree tree, Void with) {
        C.due("rule 9: a loop in " + within + " counts against a bound", tree.getCondition() != null
            && tree.getInitializer().size() == 1 && tree.getUpdate().size() == 1);
        return super.visitForLoop(tree, with);
    }

    @Override
    public Void visitAssignment(AssignmentTree tree, Void with) {
        unchanged(tree.getVariable());
        return super.visitAssignment(tree, with);
    }

    @Override
    public Void visitCompoundAssignment(CompoundAssignmentTree tree, Void with) {
        unchanged(tree.getVariable());
        return super.visitCompoundAssignment(tree, with);
    }

    @Override
    public Void visitUnary(UnaryTree tree, Void with) {
        if (!Set.of(Tree.Kind.UNARY_MINUS, Tree.Kind.LOGICAL_COMPLEMENT, Tree.Kind.BITWISE_COMPLEMENT).contains(tree.getKind())) {
            unchanged(tree.getExpression());
        }
        return super.visitUnary(tree, with);
    }

    private void unchanged(ExpressionTree target) {
        if (target instanceof ArrayAccessTree access) {
            Element row = trees.getElement(new com.sun.source.util.TreePath(getCurrentPath(), access.getExpression()));
            C.due("rule 5: no constant row is changed: " + row, row == null || !row.getModifiers().contains(Modifier.STATIC));
        }
    }

    private static boolean isOwn(String type) {
        return type.equals("AnswerDays") || type.startsWith("AnswerDays.");
    }

    /** Rule 11: calls go at most eight deep, each method of a recursion taken once, the call from outside as the first. */
    private void depths() {
        for (ExecutableElement method : calls.keySet()) {
            if (method.getModifiers().contains(Modifier.PUBLIC)) {
                List<ExecutableElement> chain = deepest(method, new LinkedHashSet<>());
                C.due("rule 11: calls " + chain.size() + " deep, " + chain, chain.size() <= 8);
            }
        }
    }

    private List<ExecutableElement> deepest(ExecutableElement method, Set<ExecutableElement> open) {
        List<ExecutableElement> best = new ArrayList<>();
        open.add(method);
        for (ExecutableElement called : calls.get(method)) {
            if (!open.contains(called) && calls.containsKey(called)) {
                List<ExecutableElement> chain = deepest(called, open);
                best = chain.size() > best.size() ? chain : best;
            }
        }
        open.remove(method);
        best.add(0, method);
        return best;
    }

    /** Rule 8: what comes back to itself carries its depth, and looks at it. */
    private void recursion() {
        Set<String> again = new TreeSet<>();
        for (ExecutableElement method : calls.keySet()) {
            Set<ExecutableElement> reached = new LinkedHashSet<>();
            reach(method, reached);
            if (reached.contains(method)) {
                again.add(method.getSimpleName().toString());
                C.due("rule 8: " + method + " carries its depth",
                    method.getParameters().stream().anyMatch(p -> p.getSimpleName().contentEquals("depth")));
            }
        }
        C.due("rule 8: recursion is the Reader's alone: " + again,
            again.equals(Set.of("readTest", "readPlain", "readSum", "readPart")));
    }

    private void reach(ExecutableElement method, Set<ExecutableElement> reached) {
        for (ExecutableElement called : calls.getOrDefault(method, Set.of())) {
            if (reached.add(called)) {
                reach(called, reached);
            }
        }
    }
}
