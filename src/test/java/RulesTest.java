import com.sun.source.tree.BinaryTree;
import com.sun.source.tree.BlockTree;
import com.sun.source.tree.CompilationUnitTree;
import com.sun.source.tree.ExpressionTree;
import com.sun.source.tree.MethodInvocationTree;
import com.sun.source.tree.MethodTree;
import com.sun.source.tree.NewClassTree;
import com.sun.source.tree.Tree;
import com.sun.source.tree.VariableTree;
import com.sun.source.util.JavacTask;
import com.sun.source.util.TreePath;
import com.sun.source.util.TreePathScanner;
import com.sun.source.util.Trees;
import java.io.IOException;
import java.nio.file.Path;
import java.util.ArrayList;
import java.util.List;
import java.util.Map;
import java.util.Set;
import java.util.TreeMap;
import java.util.TreeSet;
import javax.lang.model.element.Element;
import javax.lang.model.type.TypeMirror;
import javax.tools.JavaCompiler;
import javax.tools.StandardJavaFileManager;
import javax.tools.ToolProvider;

/** The rules of LANGUAGE.md that only the compiler's own tree of the class shows. */
public final class RulesTest extends TreePathScanner<Void, Void> {
    private static final Checks CHECKS = new Checks();
    private static final int MOST_DEEP = 8;
    /** Rule 4, as far as the class uses it: what else LANGUAGE.md allows may be added here. */
    private static final Set<String> LIBRARY = Set.of("java.lang.String.length()", "java.lang.String.charAt(int)",
        "java.lang.Integer.bitCount(int)", "java.lang.Math.max(int,int)", "java.lang.Math.min(int,int)",
        "java.lang.System.arraycopy(java.lang.Object,int,java.lang.Object,int,int)",
        "java.util.Arrays.fill(int[],int)");
    private static final Set<Tree.Kind> FORBIDDEN = Set.of(Tree.Kind.THROW, Tree.Kind.TRY, Tree.Kind.CATCH,
        Tree.Kind.SYNCHRONIZED, Tree.Kind.ASSERT, Tree.Kind.LAMBDA_EXPRESSION, Tree.Kind.MEMBER_REFERENCE,
        Tree.Kind.TYPE_CAST, Tree.Kind.INSTANCE_OF, Tree.Kind.ANNOTATION, Tree.Kind.YIELD, Tree.Kind.SWITCH_EXPRESSION);
    private static final Set<String> TYPES = Set.of("int", "long", "char", "boolean", "int[]", "char[]",
        "java.lang.String");

    private final Trees trees;
    /** Which methods and constructors each one calls, by their names with class and parameters. */
    private final Map<String, Set<String>> calls = new TreeMap<>();
    private final Set<String> recursive = new TreeSet<>();

    private RulesTest(Trees trees) {
        this.trees = trees;
    }

    public static void main(String[] args) throws IOException {
        JavaCompiler compiler = ToolProvider.getSystemJavaCompiler();
        try (StandardJavaFileManager files = compiler.getStandardFileManager(null, null, null)) {
            JavacTask task = (JavacTask) compiler.getTask(null, files, null, List.of("--release", "17"), null,
                files.getJavaFileObjects(Path.of("src/main/java/DropQueues.java")));
            Iterable<? extends CompilationUnitTree> units = task.parse();
            task.analyze();
            RulesTest rules = new RulesTest(Trees.instance(task));
            rules.scan(units, null);
            rules.depths();
        }
        CHECKS.end("RulesTest");
    }

    @Override
    public Void scan(Tree tree, Void none) {
        if (tree != null && FORBIDDEN.contains(tree.getKind())) {
            // A cast among numbers needs no test ahead of it.
            boolean fine = tree.getKind() == Tree.Kind.TYPE_CAST && typeOf(tree).getKind().isPrimitive();
            CHECKS.holds("rules 2, 6: no " + tree.getKind() + ": " + tree, fine);
        }
        return super.scan(tree, none);
    }

    @Override
    public Void visitMethodInvocation(MethodInvocationTree call, Void none) {
        called(call);
        return super.visitMethodInvocation(call, none);
    }

    @Override
    public Void visitNewClass(NewClassTree made, Void none) {
        CHECKS.holds("rule 2: no anonymous class: " + made, made.getClassBody() == null);
        called(made);
        return super.visitNewClass(made, none);
    }

    @Override
    public Void visitBinary(BinaryTree both, Void none) {
        if (both.getKind() == Tree.Kind.DIVIDE || both.getKind() == Tree.Kind.REMAINDER) {
            CHECKS.holds("rule 7: a divisor is never 0: " + both, isPositive(both.getRightOperand()));
        }
        if (both.getKind() == Tree.Kind.PLUS) {
            CHECKS.holds("rule 10: only numbers are joined by +: " + both, typeOf(both).getKind().isPrimitive());
        }
        return super.visitBinary(both, none);
    }

    @Override
    public Void visitVariable(VariableTree variable, Void none) {
        String type = typeOf(variable).toString();
        CHECKS.holds("rule 3: type of " + variable, TYPES.contains(type) || type.startsWith("DropQueues."));
        return super.visitVariable(variable, none);
    }

    @Override
    public Void visitBlock(BlockTree block, Void none) {
        CHECKS.holds("rule 5: no static initialiser", !block.isStatic());
        return super.visitBlock(block, none);
    }

    private TypeMirror typeOf(Tree tree) {
        TypeMirror type = trees.getTypeMirror(new TreePath(getCurrentPath(), tree));
        return type == null ? trees.getTypeMirror(getCurrentPath()) : type;
    }

    private void called(Tree call) {
        Element element = trees.getElement(getCurrentPath());
        String name = element.getEnclosingElement() + "." + element;
        if (!name.startsWith("DropQueues")) {
            boolean isSuper = call.toString().equals("super()");
            CHECKS.holds("rule 4: library call " + name, isSuper || LIBRARY.contains(name));
            return;
        }
        calls.computeIfAbsent(caller(), k -> new TreeSet<>()).add(name);
    }

    /** What stands in a field's initialiser is called by each constructor; the classes here have one at most. */
    private String caller() {
        TreePath path = getCurrentPath();
        while (path != null && !(path.getLeaf() instanceof MethodTree)) {
            path = path.getParentPath();
        }
        Element element = path == null ? null : trees.getElement(path);
        return element == null ? "a field's initialiser" : element.getEnclosingElement() + "." + element;
    }

    /** A constant above 0, or such with something added that is at least 0 because FEEDS are. */
    private boolean isPositive(ExpressionTree divisor) {
        String text = divisor.toString();
        return text.equals("(2 * net.feeds[q] + 1)") || text.matches("[1-9][0-9]*") || text.matches("MOST_[A-Z]+");
    }

    private void depths() {
        int deepest = 0;
        for (String method : calls.keySet()) {
            deepest = Math.max(deepest, depth(method, new ArrayList<>()));
        }
        CHECKS.holds("the calls were seen: " + deepest + " deep", deepest > 2);
        CHECKS.holds("rule 11: calls go " + deepest + " deep", deepest <= MOST_DEEP);
        String search = "[DropQueues.Picker.search(DropQueues.Picker,DropQueues.Net,int,int,int,int)]";
        CHECKS.holds("rule 8: only the search calls itself, not " + recursive, recursive.toString().equals(search));
    }

    private int depth(String method, List<String> open) {
        if (open.contains(method)) {
            recursive.add(method);
            return 0;
        }
        open.add(method);
        int below = 0;
        for (String next : calls.getOrDefault(method, Set.of())) {
            below = Math.max(below, depth(next, open));
        }
        open.remove(open.size() - 1);
        return below + 1;
    }
}
