import com.sun.source.tree.ClassTree;
import com.sun.source.tree.CompilationUnitTree;
import com.sun.source.tree.MethodInvocationTree;
import com.sun.source.tree.MethodTree;
import com.sun.source.tree.NewClassTree;
import com.sun.source.tree.Tree;
import com.sun.source.tree.VariableTree;
import com.sun.source.util.JavacTask;
import com.sun.source.util.TreePathScanner;
import com.sun.source.util.Trees;
import java.nio.file.Path;
import java.util.ArrayList;
import java.util.LinkedHashMap;
import java.util.LinkedHashSet;
import java.util.List;
import java.util.Map;
import java.util.Set;
import javax.lang.model.element.Element;
import javax.lang.model.element.Modifier;
import javax.tools.JavaCompiler;
import javax.tools.StandardJavaFileManager;
import javax.tools.ToolProvider;

/** LANGUAGE.md, rule 11: how deep the calls go, how many classes and fields there are. */
public final class DepthTest {
    private static final int DEEPEST = 8, CLASSES = 12, FIELDS = 20;

    /** Who calls whom, the library's own methods too: these call nobody. */
    private static final class Calls extends TreePathScanner<Void, Void> {
        final Map<Element, Set<Element>> calls = new LinkedHashMap<>();
        final Map<String, Integer> fields = new LinkedHashMap<>();
        private final Trees trees;
        private Element inside = null;

        Calls(Trees trees) {
            this.trees = trees;
        }

        @Override
        public Void visitClass(ClassTree kind, Void none) {
            int found = 0;
            for (Tree member : kind.getMembers()) {
                boolean field = member.getKind() == Tree.Kind.VARIABLE;
                if (field && !((VariableTree) member).getModifiers().getFlags().contains(Modifier.STATIC)) {
                    found++;
                }
            }
            fields.put(kind.getSimpleName().toString(), found);
            return super.visitClass(kind, none);
        }

        @Override
        public Void visitMethod(MethodTree method, Void none) {
            Element outside = inside;
            inside = trees.getElement(getCurrentPath());
            calls.putIfAbsent(inside, new LinkedHashSet<>());
            super.visitMethod(method, none);
            inside = outside;
            return null;
        }

        @Override
        public Void visitMethodInvocation(MethodInvocationTree call, Void none) {
            note();
            return super.visitMethodInvocation(call, none);
        }

        @Override
        public Void visitNewClass(NewClassTree call, Void none) {
            note();
            return super.visitNewClass(call, none);
        }

        private void note() {
            if (inside != null) {
                calls.get(inside).add(trees.getElement(getCurrentPath()));
            }
        }
    }

    public static void main(String[] args) throws Exception {
        Due due = new Due("DepthTest");
        JavaCompiler compiler = ToolProvider.getSystemJavaCompiler();
        try (StandardJavaFileManager files = compiler.getStandardFileManager(null, null, null)) {
            JavacTask task = (JavacTask) compiler.getTask(null, files, null, List.of("-proc:none"), null,
                files.getJavaFileObjects(Path.of("src/main/java/CopyBench.java")));
            Iterable<? extends CompilationUnitTree> units = task.parse();
            task.analyze();
            Calls calls = new Calls(Trees.instance(task));
            for (CompilationUnitTree unit : units) {
                calls.scan(unit, null);
            }
            look(due, calls);
        }
        due.end();
    }

    private static void look(Due due, Calls calls) {
        due.holds("classes: " + calls.fields.keySet(), calls.fields.size() <= CLASSES);
        for (Map.Entry<String, Integer> kind : calls.fields.entrySet()) {
            due.holds(kind.getKey() + " has " + kind.getValue() + " fields", kind.getValue() <= FIELDS);
        }
        due.holds("methods were found", calls.calls.size() > 100);
        for (Element method : calls.calls.keySet()) {
            List<Element> way = deepest(calls.calls, method, new ArrayList<>());
            due.holds("a way of calls: " + way, way.size() <= DEEPEST);
        }
    }

    /** The longest way of calls from a method on; one that calls itself again ends in a way that is too long. */
    private static List<Element> deepest(Map<Element, Set<Element>> calls, Element method, List<Element> open) {
        List<Element> best = new ArrayList<>();
        if (open.size() < 2 * DEEPEST && calls.containsKey(method)) {
            open.add(method);
            for (Element next : calls.get(method)) {
                List<Element> way = deepest(calls, next, open);
                best = way.size() > best.size() ? way : best;
            }
            open.remove(open.size() - 1);
        }
        best.add(0, method);
        return best;
    }
}
