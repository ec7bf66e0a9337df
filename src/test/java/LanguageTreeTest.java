import com.sun.source.tree.ClassTree;
import com.sun.source.tree.CompilationUnitTree;
import com.sun.source.tree.ForLoopTree;
import com.sun.source.tree.MethodInvocationTree;
import com.sun.source.tree.MethodTree;
import com.sun.source.tree.NewArrayTree;
import com.sun.source.tree.NewClassTree;
import com.sun.source.tree.Tree;
import com.sun.source.tree.TypeCastTree;
import com.sun.source.tree.VariableTree;
import com.sun.source.tree.WhileLoopTree;
import com.sun.source.util.JavacTask;
import com.sun.source.util.TreePathScanner;
import com.sun.source.util.Trees;
import java.io.IOException;
import java.nio.file.Path;
import java.util.HashMap;
import java.util.HashSet;
import java.util.List;
import java.util.Map;
import java.util.Set;
import javax.lang.model.element.Element;
import javax.lang.model.element.ElementKind;
import javax.lang.model.element.ExecutableElement;
import javax.lang.model.element.Modifier;
import javax.tools.JavaCompiler;
import javax.tools.StandardJavaFileManager;
import javax.tools.ToolProvider;

/** Those rules of ../shared/LANGUAGE.md that show in who calls whom and what is made, as the compiler reads the class. */
public final class LanguageTreeTest extends TreePathScanner<Void, ExecutableElement> {
    private static final Due due = new Due("LanguageTreeTest");
    private static final Path SOURCE = Path.of("src/main/java/LooseHeap.java");
    private static final Set<String> LIBRARY = Set.of("java.lang.Math.abs", "java.lang.Math.max", "java.lang.Math.min", "java.lang.System.arraycopy", "java.util.Arrays.fill", "java.lang.Object.<init>");
    private static final int MOST_CLASSES = 12;
    private static final int MOST_FIELDS = 20;
    private static final int DEEPEST_CALL = 8;

    private final Trees trees;
    private final Map<ExecutableElement, Set<ExecutableElement>> calls = new HashMap<>();
    private int classes = 0;

    private LanguageTreeTest(Trees trees) {
        this.trees = trees;
    }

    private static boolean isOwn(Element element) {
        String owner = element.getEnclosingElement().toString();
        return owner.equals("LooseHeap") || owner.startsWith("LooseHeap.");
    }

    @Override
    public Void visitClass(ClassTree type, ExecutableElement in) {
        classes++;
        int fields = 0;
        for (Tree member : type.getMembers()) {
            if (member instanceof VariableTree field && !field.getModifiers().getFlags().contains(Modifier.STATIC)) {
                fields++;
            }
            due.holds(0, "no initialiser block in " + type.getSimpleName(), member.getKind() != Tree.Kind.BLOCK);
        }
        due.holds(0, "rule 11: " + type.getSimpleName() + " has " + fields + " fields", fields <= MOST_FIELDS);
        return super.visitClass(type, in);
    }

    @Override
    public Void visitMethod(MethodTree method, ExecutableElement in) {
        ExecutableElement here = (ExecutableElement) trees.getElement(getCurrentPath());
        calls.putIfAbsent(here, new HashSet<>());
        return super.visitMethod(method, here);
    }

    @Override
    public Void visitMethodInvocation(MethodInvocationTree call, ExecutableElement in) {
        ExecutableElement called = (ExecutableElement) trees.getElement(getCurrentPath());
        if (isOwn(called)) {
            calls.get(in).add(called);
        } else {
            String name = called.getEnclosingElement() + "." + called.getSimpleName();
            due.holds(0, "rule 4: " + name + " in " + in, LIBRARY.contains(name));
        }
        return super.visitMethodInvocation(call, in);
    }

    @Override
    public Void visitNewClass(NewClassTree made, ExecutableElement in) {
        Element maker = trees.getElement(getCurrentPath());
        due.holds(0, "rules 3 and 12: " + made + " in " + in + " is one of its own classes, made in a constructor", isOwn(maker) && in.getKind() == ElementKind.CONSTRUCTOR);
        calls.get(in).add((ExecutableElement) maker);
        return super.visitNewClass(made, in);
    }

    /** The room is one for all calls, so every row is made with its object. */
    @Override
    public Void visitNewArray(NewArrayTree made, ExecutableElement in) {
        due.holds(0, "rule 12: " + made + " in " + in + " is made in a constructor", in != null && in.getKind() == ElementKind.CONSTRUCTOR);
        return super.visitNewArray(made, in);
    }

    @Override
    public Void visitTypeCast(TypeCastTree cast, ExecutableElement in) {
        due.holds(0, "rule 7: " + cast + " in " + in + " is a cast among numbers", trees.getTypeMirror(getCurrentPath()).getKind().isPrimitive());
        return super.visitTypeCast(cast, in);
    }

    @Override
    public Void visitForLoop(ForLoopTree loop, ExecutableElement in) {
        boolean bounded = loop.getCondition() != null && loop.getCondition().toString().contains(" < ") && !loop.getUpdate().isEmpty();
        due.holds(0, "rule 9: a counter against a bound in " + in + ": " + loop.getCondition(), bounded);
        return super.visitForLoop(loop, in);
    }

    @Override
    public Void visitWhileLoop(WhileLoopTree loop, ExecutableElement in) {
        due.holds(0, "rule 9: a counter against a bound in " + in + ": " + loop.getCondition(), loop.getCondition().toString().contains(" < ") && loop.getStatement().toString().contains("++"));
        return super.visitWhileLoop(loop, in);
    }

    /** How many calls stand open at once from this one on; the way tells who is open, so that recursion is found. */
    private int depth(ExecutableElement method, Set<ExecutableElement> way) {
        due.holds(0, "rule 8: no recursion through " + method, way.add(method));
        int deepest = 0;
        for (ExecutableElement called : calls.getOrDefault(method, Set.of())) {
            if (!way.contains(called)) {
                deepest = Math.max(deepest, depth(called, way));
            } else {
                due.holds(0, "rule 8: no recursion through " + called, false);
            }
        }
        way.remove(method);
        return deepest + 1;
    }

    private void end() {
        due.holds(0, "rule 11: " + classes + " classes", classes > 1 && classes <= MOST_CLASSES);
        for (ExecutableElement method : calls.keySet()) {
            if (method.getModifiers().contains(Modifier.PUBLIC)) {
                int depth = depth(method, new HashSet<>());
                due.holds(0, "rule 11: " + method + " goes " + depth + " calls deep", depth <= DEEPEST_CALL);
            }
        }
        due.end();
    }

    public static void main(String[] args) throws IOException {
        JavaCompiler compiler = ToolProvider.getSystemJavaCompiler();
        try (StandardJavaFileManager files = compiler.getStandardFileManager(null, null, null)) {
            JavacTask task = (JavacTask) compiler.getTask(null, files, null, List.of("-proc:none"), null, files.getJavaFileObjects(SOURCE));
            Iterable<? extends CompilationUnitTree> units = task.parse();
            task.analyze();
            LanguageTreeTest test = new LanguageTreeTest(Trees.instance(task));
            for (CompilationUnitTree unit : units) {
                test.scan(unit, null);
            }
            test.end();
        }
    }
}
