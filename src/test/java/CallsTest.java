import com.sun.source.tree.ClassTree;
import com.sun.source.tree.CompilationUnitTree;
import com.sun.source.tree.ExpressionTree;
import com.sun.source.tree.MethodInvocationTree;
import com.sun.source.tree.MethodTree;
import com.sun.source.tree.NewArrayTree;
import com.sun.source.tree.NewClassTree;
import com.sun.source.tree.ThrowTree;
import com.sun.source.tree.Tree;
import com.sun.source.tree.VariableTree;
import com.sun.source.util.JavacTask;
import com.sun.source.util.TreePath;
import com.sun.source.util.TreePathScanner;
import com.sun.source.util.Trees;
import java.io.IOException;
import java.nio.file.Path;
import java.util.ArrayDeque;
import java.util.Deque;
import java.util.List;
import java.util.Map;
import java.util.Set;
import java.util.TreeMap;
import java.util.TreeSet;
import javax.lang.model.element.Element;
import javax.lang.model.element.ElementKind;
import javax.lang.model.element.Modifier;
import javax.tools.JavaCompiler;
import javax.tools.StandardJavaFileManager;
import javax.tools.ToolProvider;

/** The rules of ../shared/LANGUAGE.md on calls, objects and exceptions, read from the program's syntax tree. */
public final class CallsTest extends TreePathScanner<Void, Void> {
    private static final int MOST_DEEP = 8;
    /** Told instead of a depth, which a method that calls itself does not have. */
    private static final int RECURSION = 1000;
    private static final int MOST_PARAMETERS = 7;
    private static final int MOST_FIELDS = 20;
    private static final Set<String> LIBRARY = Set.of("java.lang.Math.max(int,int)", "java.lang.Math.min(int,int)",
        "java.lang.Math.abs(int)",
        "java.lang.System.arraycopy(java.lang.Object,int,java.lang.Object,int,int)");
    private static final Set<String> EXCEPTIONS = Set.of("IndexOutOfBoundsException", "IllegalArgumentException",
        "IllegalStateException");

    private final Trees trees;
    /** What each method calls; a constructor's name ends in its class's, and has what the fields begin with too. */
    private final Map<String, Set<String>> calls = new TreeMap<>();
    private final Map<String, Integer> depths = new TreeMap<>();
    private final Set<String> open = new TreeSet<>();
    private final Deque<String> within = new ArrayDeque<>();
    private boolean making = false;

    private CallsTest(Trees trees) {
        this.trees = trees;
    }

    public static void main(String[] args) throws IOException {
        JavaCompiler compiler = ToolProvider.getSystemJavaCompiler();
        try (StandardJavaFileManager files = compiler.getStandardFileManager(null, null, null)) {
            JavacTask task = (JavacTask) compiler.getTask(null, files, null, List.of("-proc:none"), null,
                files.getJavaFileObjects(Path.of("src/main/java/RackMoves.java")));
            Iterable<? extends CompilationUnitTree> units = task.parse();
            task.analyze();
            CallsTest test = new CallsTest(Trees.instance(task));
            test.scan(units, null);
            test.callsAreShallow();
        }
        Check.end();
    }

    private void callsAreShallow() {
        for (String method : calls.keySet()) {
            Check.is("calls as deep as may be below " + method, Math.max(depth(method), MOST_DEEP), MOST_DEEP);
        }
        Check.is("methods and constructors were read", calls.size() > 60 ? 1 : 0, 1);
        Check.is("the deepest call of all, as NOTES.md has it", depths.values().stream().max(Integer::compare).get(),
            MOST_DEEP);
    }

    /** How many calls are open at once in the deepest one below this one, with itself. */
    private int depth(String method) {
        if (!calls.containsKey(method)) {
            return 0;
        }
        Integer known = depths.get(method);
        if (known != null) {
            return known;
        }
        open.add(method);
        int below = 0;
        for (String called : calls.get(method)) {
            below = Math.max(below, open.contains(called) ? RECURSION : depth(called));
        }
        open.remove(method);
        depths.put(method, below + 1);
        return below + 1;
    }

    @Override
    public Void visitClass(ClassTree tree, Void nothing) {
        Element element = trees.getElement(getCurrentPath());
        long fields = element.getEnclosedElements().stream()
            .filter(each -> each.getKind().isField() && !each.getModifiers().contains(Modifier.STATIC)).count();
        Check.is("fields of " + element, Math.max(fields, MOST_FIELDS), MOST_FIELDS);
        return super.visitClass(tree, nothing);
    }

    @Override
    public Void visitVariable(VariableTree tree, Void nothing) {
        boolean isField = getCurrentPath().getParentPath().getLeaf() instanceof ClassTree;
        if (!isField) {
            return super.visitVariable(tree, nothing);
        }
        Element owner = trees.getElement(getCurrentPath()).getEnclosingElement();
        return scanWithin(constructorOf(owner), true, () -> super.visitVariable(tree, nothing));
    }

    @Override
    public Void visitMethod(MethodTree tree, Void nothing) {
        Element element = trees.getElement(getCurrentPath());
        Check.is("parameters of " + element, Math.max(tree.getParameters().size(), MOST_PARAMETERS), MOST_PARAMETERS);
        boolean isConstructor = tree.getReturnType() == null;
        String name = isConstructor ? constructorOf(element.getEnclosingElement()) : nameOf(element);
        return scanWithin(name, isConstructor, () -> super.visitMethod(tree, nothing));
    }

    private Void scanWithin(String name, boolean makes, Runnable scan) {
        calls.computeIfAbsent(name, key -> new TreeSet<>());
        within.push(name);
        boolean before = making;
        making = makes;
        scan.run();
        making = before;
        within.pop();
        return null;
    }

    @Override
    public Void visitMethodInvocation(MethodInvocationTree tree, Void nothing) {
        Element called = trees.getElement(new TreePath(getCurrentPath(), tree.getMethodSelect()));
        if (called.getKind() == ElementKind.CONSTRUCTOR) {
            return null;
        }
        boolean mayBe = nameOf(called).startsWith("RackMoves.") || LIBRARY.contains(nameOf(called));
        Check.is(nameOf(called) + " may be called", mayBe ? 1 : 0, 1);
        calls.get(within.peek()).add(nameOf(called));
        return super.visitMethodInvocation(tree, nothing);
    }

    @Override
    public Void visitThrow(ThrowTree tree, Void nothing) {
        ExpressionTree thrown = tree.getExpression();
        boolean plain = thrown instanceof NewClassTree made && EXCEPTIONS.contains(made.getIdentifier().toString())
            && made.getArguments().stream().allMatch(each -> each.getKind() == Tree.Kind.STRING_LITERAL);
        Check.is("plain: " + tree, plain ? 1 : 0, 1);
        Check.is("in no constructor: " + tree, making ? 1 : 0, 0);
        return null;
    }

    @Override
    public Void visitNewClass(NewClassTree tree, Void nothing) {
        Check.is("made by a constructor: " + tree, making ? 1 : 0, 1);
        calls.get(within.peek()).add(constructorOf(trees.getElement(getCurrentPath()).getEnclosingElement()));
        return super.visitNewClass(tree, nothing);
    }

    @Override
    public Void visitNewArray(NewArrayTree tree, Void nothing) {
        Check.is("made by a constructor: " + tree, making ? 1 : 0, 1);
        return super.visitNewArray(tree, nothing);
    }

    private static String nameOf(Element method) {
        return method.getEnclosingElement() + "." + method;
    }

    private static String constructorOf(Element type) {
        return type + ".new";
    }
}
