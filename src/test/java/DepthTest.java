import com.sun.source.tree.ClassTree;
import com.sun.source.tree.CompilationUnitTree;
import com.sun.source.tree.MethodInvocationTree;
import com.sun.source.tree.MethodTree;
import com.sun.source.tree.NewClassTree;
import com.sun.source.tree.Tree;
import com.sun.source.tree.VariableTree;
import com.sun.source.util.JavacTask;
import com.sun.source.util.TreePathScanner;
import com.sun.source.util.Trees;
import java.io.IOException;
import java.nio.file.Path;
import java.util.ArrayList;
import java.util.LinkedHashMap;
import java.util.LinkedHashSet;
import java.util.List;
import java.util.Map;
import java.util.Set;
import javax.lang.model.element.Element;
import javax.tools.JavaCompiler;
import javax.tools.StandardJavaFileManager;
import javax.tools.ToolProvider;

/** LANGUAGE.md's rule 11, by the source itself: eight calls deep, sixty lines; run from the project's directory. */
public final class DepthTest {
    private static final Path SOURCE = Path.of("src/main/java/FarTypewriter.java");
    private static final int MOST_DEEP = 8;
    private static final int MOST_LINES = 60;

    /** Each method of the class and of those inside it, with the methods among them that it calls. */
    private final Map<Element, Set<Element>> calls = new LinkedHashMap<>();

    public static void main(String[] args) throws IOException {
        DepthTest test = new DepthTest();
        test.read();
        Check.due("whether methods were found", test.calls.size() > 40, true);
        int deepest = 0;
        for (Element method : test.calls.keySet()) {
            int deep = test.depth(method, List.of());
            Check.due(described(method) + " goes deeper than eight calls", deep > MOST_DEEP, false);
            deepest = Math.max(deepest, deep);
        }
        Check.due("whether calls were followed", deepest > 5, true);
        Check.finish();
    }

    private static String described(Element method) {
        return method.getEnclosingElement() + "." + method;
    }

    private void read() throws IOException {
        JavaCompiler compiler = ToolProvider.getSystemJavaCompiler();
        try (StandardJavaFileManager files = compiler.getStandardFileManager(null, null, null)) {
            JavacTask task = (JavacTask) compiler.getTask(null, files, null, null, null,
                files.getJavaFileObjects(SOURCE));
            Iterable<? extends CompilationUnitTree> units = task.parse();
            task.analyze();
            for (CompilationUnitTree unit : units) {
                new Reader(Trees.instance(task), unit).scan(unit, null);
            }
        }
    }

    private int depth(Element method, List<Element> open) {
        if (open.contains(method)) {
            Check.due(described(method) + " calls itself", true, false);
            return 0;
        }
        List<Element> within = new ArrayList<>(open);
        within.add(method);
        int deepest = 0;
        for (Element called : calls.getOrDefault(method, Set.of())) {
            if (calls.containsKey(called)) {
                deepest = Math.max(deepest, depth(called, within));
            }
        }
        return deepest + 1;
    }

    private final class Reader extends TreePathScanner<Void, Void> {
        private final Trees trees;
        private final CompilationUnitTree unit;
        private Element inside;

        Reader(Trees trees, CompilationUnitTree unit) {
            this.trees = trees;
            this.unit = unit;
        }

        @Override
        public Void visitMethod(MethodTree node, Void nothing) {
            Element before = inside;
            inside = trees.getElement(getCurrentPath());
            calls.computeIfAbsent(inside, m -> new LinkedHashSet<>());
            addFieldsMade();
            Check.due(described(inside) + " has too many lines", lines(node) > MOST_LINES, false);
            super.visitMethod(node, nothing);
            inside = before;
            return null;
        }

        /** What stands in the fields' first values is called by the constructor. */
        private void addFieldsMade() {
            if (!inside.getSimpleName().contentEquals("<init>")) {
                return;
            }
            ClassTree own = (ClassTree) getCurrentPath().getParentPath().getLeaf();
            Reader fields = new Reader(trees, unit);
            fields.inside = inside;
            for (Tree member : own.getMembers()) {
                if (member instanceof VariableTree) {
                    fields.scan(trees.getPath(unit, member), null);
                }
            }
        }

        private long lines(MethodTree node) {
            long start = trees.getSourcePositions().getStartPosition(unit, node);
            long end = trees.getSourcePositions().getEndPosition(unit, node);
            return start < 0 || end < 0 ? 0
                : unit.getLineMap().getLineNumber(end) - unit.getLineMap().getLineNumber(start) + 1;
        }

        @Override
        public Void visitMethodInvocation(MethodInvocationTree node, Void nothing) {
            add(trees.getElement(getCurrentPath()));
            return super.visitMethodInvocation(node, nothing);
        }

        @Override
        public Void visitNewClass(NewClassTree node, Void nothing) {
            add(trees.getElement(getCurrentPath()));
            return super.visitNewClass(node, nothing);
        }

        private void add(Element called) {
            if (inside != null) {
                calls.get(inside).add(called);
            }
        }
    }
}
