import com.sun.source.tree.BinaryTree;
import com.sun.source.tree.CompilationUnitTree;
import com.sun.source.tree.CompoundAssignmentTree;
import com.sun.source.tree.MethodInvocationTree;
import com.sun.source.tree.MethodTree;
import com.sun.source.tree.NewClassTree;
import com.sun.source.tree.Tree;
import com.sun.source.util.JavacTask;
import com.sun.source.util.TreePathScanner;
import com.sun.source.util.Trees;
import java.io.IOException;
import java.nio.file.Path;
import java.util.ArrayDeque;
import java.util.Deque;
import java.util.List;
import java.util.Map;
import java.util.Set;
import java.util.TreeMap;
import java.util.TreeSet;
import javax.lang.model.element.Element;
import javax.lang.model.element.ElementKind;
import javax.lang.model.type.TypeKind;
import javax.tools.JavaCompiler;
import javax.tools.StandardJavaFileManager;
import javax.tools.ToolProvider;

/** LANGUAGE.md 4, 8, 10, 11: which of the library is called, how deep calls go, no text joined by +. */
public final class CallsTest extends TreePathScanner<Void, Void> {
    private static final int DEEPEST = 8;
    /** What LANGUAGE.md allows of what the class may have use for; a call beyond these is to be looked up there first. */
    private static final Set<String> LIBRARY = Set.of("java.lang.String.length", "java.lang.String.charAt",
        "java.lang.Integer.bitCount", "java.lang.Math.min", "java.lang.Math.max", "java.lang.Math.abs",
        "java.lang.System.arraycopy", "java.util.Arrays.fill");

    private final Trees trees;
    private final Map<String, Set<String>> calls = new TreeMap<>();
    private final Set<String> library = new TreeSet<>();
    private String inside = "none";

    private CallsTest(Trees trees) {
        this.trees = trees;
    }

    public static void main(String[] args) throws IOException {
        JavaCompiler compiler = ToolProvider.getSystemJavaCompiler();
        try (StandardJavaFileManager files = compiler.getStandardFileManager(null, null, null)) {
            JavacTask task = (JavacTask) compiler.getTask(null, files, null, List.of("-proc:none"), null,
                files.getJavaFileObjects(Path.of("src/main/java/LoafStreet.java")));
            Iterable<? extends CompilationUnitTree> units = task.parse();
            task.analyze();
            CallsTest seen = new CallsTest(Trees.instance(task));
            for (CompilationUnitTree unit : units) {
                seen.scan(unit, null);
            }
            seen.judge();
        }
        Due.end("CallsTest");
    }

    private void judge() {
        Due.is("methods were seen", calls.size() > 100, true);
        for (String one : library) {
            Due.is("the library's " + one, LIBRARY.contains(one), true);
        }
        for (String one : calls.keySet()) {
            int depth = depth(one, new ArrayDeque<>());
            Due.is(one + " goes " + depth + " deep", depth <= DEEPEST, true);
        }
    }

    private int depth(String method, Deque<String> open) {
        if (open.contains(method)) {
            Due.is(method + " comes back to itself", true, false);
            return 0;
        }
        open.push(method);
        int deepest = 0;
        for (String called : calls.getOrDefault(method, Set.of())) {
            deepest = Math.max(deepest, depth(called, open));
        }
        open.pop();
        return deepest + 1;
    }

    private String name(Tree tree) {
        Element e = trees.getElement(trees.getPath(getCurrentPath().getCompilationUnit(), tree));
        return e == null ? "unknown" : e.getEnclosingElement() + "." + (e.getKind() == ElementKind.CONSTRUCTOR ? "new" : e.getSimpleName());
    }

    @Override
    public Void visitMethod(MethodTree tree, Void none) {
        String outside = inside;
        inside = name(tree);
        calls.computeIfAbsent(inside, k -> new TreeSet<>());
        super.visitMethod(tree, none);
        inside = outside;
        return null;
    }

    @Override
    public Void visitMethodInvocation(MethodInvocationTree tree, Void none) {
        note(name(tree));
        return super.visitMethodInvocation(tree, none);
    }

    @Override
    public Void visitNewClass(NewClassTree tree, Void none) {
        note(name(tree));
        return super.visitNewClass(tree, none);
    }

    private void note(String called) {
        if (called.startsWith("LoafStreet")) {
            calls.computeIfAbsent(inside, k -> new TreeSet<>()).add(called);
        } else if (!called.equals("java.lang.Object.new")) {
            library.add(called);
        }
    }

    @Override
    public Void visitBinary(BinaryTree tree, Void none) {
        Due.is(tree + " joins no text", isPrimitive(tree), true);
        return super.visitBinary(tree, none);
    }

    @Override
    public Void visitCompoundAssignment(CompoundAssignmentTree tree, Void none) {
        Due.is(tree + " joins no text", isPrimitive(tree), true);
        return super.visitCompoundAssignment(tree, none);
    }

    private boolean isPrimitive(Tree tree) {
        TypeKind kind = trees.getTypeMirror(trees.getPath(getCurrentPath().getCompilationUnit(), tree)).getKind();
        return kind.isPrimitive();
    }
}
