import com.sun.source.tree.ClassTree;
import com.sun.source.tree.CompilationUnitTree;
import com.sun.source.tree.DoWhileLoopTree;
import com.sun.source.tree.ForLoopTree;
import com.sun.source.tree.MethodInvocationTree;
import com.sun.source.tree.MethodTree;
import com.sun.source.tree.NewClassTree;
import com.sun.source.tree.Tree;
import com.sun.source.tree.WhileLoopTree;
import com.sun.source.util.JavacTask;
import com.sun.source.util.TreePathScanner;
import com.sun.source.util.Trees;
import java.io.File;
import java.io.IOException;
import java.util.ArrayList;
import java.util.List;
import java.util.Map;
import java.util.Set;
import java.util.TreeMap;
import java.util.TreeSet;
import javax.lang.model.element.Element;
import javax.lang.model.element.ExecutableElement;
import javax.tools.JavaCompiler;
import javax.tools.StandardJavaFileManager;
import javax.tools.ToolProvider;

/** Rules 8, 9 and 11 of ../shared/LANGUAGE.md, as the compiler's own tree of the class shows them. */
public final class RulesTest {
    private static final int MOST_LINES = 60;
    private static final int DEEPEST = 8;

    /** The only ones that call one another: a level for each NAME. */
    private static final Set<String> RECURSIVE =
        Set.of("Search.goOn", "Search.take", "Trial.goOn", "Trial.tryValue");

    private static final Check CHECK = new Check();

    /** Who calls whom, by names as Costs.sum; methods of one class that share a name are taken as one. */
    private final Map<String, Set<String>> calls = new TreeMap<>();
    private final Set<String> openNow = new TreeSet<>();

    public static void main(String[] args) throws IOException {
        if (ToolProvider.getSystemJavaCompiler() == null) {
            System.out.println("this java has no compiler to read the class with");
            return;
        }
        RulesTest rules = new RulesTest();
        rules.read(new File("src/main/java/SoftCosts.java"));
        CHECK.holds("the calls were found: " + rules.calls.size(), rules.calls.size() > 50);
        for (String method : rules.calls.keySet()) {
            boolean again = rules.reaches(method, method, new TreeSet<>());
            CHECK.holds(method + " is recursive as told", again == RECURSIVE.contains(method));
            int deep = rules.depthFrom(method);
            CHECK.holds(method + " goes eight deep at most: " + deep, deep <= DEEPEST);
        }
        CHECK.end();
    }

    private void read(File file) throws IOException {
        JavaCompiler compiler = ToolProvider.getSystemJavaCompiler();
        try (StandardJavaFileManager files = compiler.getStandardFileManager(null, null, null)) {
            JavacTask task = (JavacTask) compiler.getTask(null, files, null, List.of("-proc:none"), null,
                files.getJavaFileObjects(file));
            List<CompilationUnitTree> units = new ArrayList<>();
            task.parse().forEach(units::add);
            task.analyze();
            for (CompilationUnitTree unit : units) {
                new Reader(Trees.instance(task), unit).scan(unit, null);
            }
        }
    }

    private boolean reaches(String from, String to, Set<String> seen) {
        for (String next : calls.getOrDefault(from, Set.of())) {
            if (next.equals(to) || seen.add(next) && reaches(next, to, seen)) {
                return true;
            }
        }
        return false;
    }

    /** The most methods that are open at once, itself with them, each one once. */
    private int depthFrom(String method) {
        int deepest = 0;
        openNow.add(method);
        for (String next : calls.getOrDefault(method, Set.of())) {
            if (!openNow.contains(next)) {
                deepest = Math.max(deepest, depthFrom(next));
            }
        }
        openNow.remove(method);
        return 1 + deepest;
    }

    private final class Reader extends TreePathScanner<Void, Void> {
        private final Trees trees;
        private final CompilationUnitTree unit;
        private String inClass = "";
        private String inMethod = "";

        Reader(Trees trees, CompilationUnitTree unit) {
            this.trees = trees;
            this.unit = unit;
        }

        @Override
        public Void visitClass(ClassTree tree, Void none) {
            String outer = inClass;
            String outerMethod = inMethod;
            inClass = tree.getSimpleName().toString();
            // what a field begins with is done by the constructor
            inMethod = inClass + ".<init>";
            super.visitClass(tree, none);
            inClass = outer;
            inMethod = outerMethod;
            return null;
        }

        @Override
        public Void visitMethod(MethodTree tree, Void none) {
            String outer = inMethod;
            inMethod = inClass + "." + tree.getName();
            calls.computeIfAbsent(inMethod, m -> new TreeSet<>());
            long lines = line(trees.getSourcePositions().getEndPosition(unit, tree)) - lineOf(tree) + 1;
            CHECK.holds(inMethod + " has sixty lines at most: " + lines, lines <= MOST_LINES);
            CHECK.holds(inMethod + " takes seven at most", tree.getParameters().size() <= 7);
            super.visitMethod(tree, none);
            inMethod = outer;
            return null;
        }

        @Override
        public Void visitMethodInvocation(MethodInvocationTree tree, Void none) {
            note(trees.getElement(getCurrentPath()));
            return super.visitMethodInvocation(tree, none);
        }

        @Override
        public Void visitNewClass(NewClassTree tree, Void none) {
            note(trees.getElement(getCurrentPath()));
            return super.visitNewClass(tree, none);
        }

        @Override
        public Void visitForLoop(ForLoopTree tree, Void none) {
            CHECK.holds("a for in " + inMethod + " tells its end", tree.getCondition() != null);
            return super.visitForLoop(tree, none);
        }

        @Override
        public Void visitWhileLoop(WhileLoopTree tree, Void none) {
            CHECK.holds("a while in " + inMethod + " has no counter", false);
            return super.visitWhileLoop(tree, none);
        }

        @Override
        public Void visitDoWhileLoop(DoWhileLoopTree tree, Void none) {
            CHECK.holds("a do in " + inMethod + " has no counter", false);
            return super.visitDoWhileLoop(tree, none);
        }

        /** The library's own calls are counted, too; a class's call of its Object's constructor is none. */
        private void note(Element called) {
            if (called instanceof ExecutableElement) {
                String in = called.getEnclosingElement().getSimpleName().toString();
                if (!in.equals("Object")) {
                    calls.computeIfAbsent(inMethod, m -> new TreeSet<>()).add(in + "." + called.getSimpleName());
                }
            }
        }

        private long lineOf(Tree tree) {
            return line(trees.getSourcePositions().getStartPosition(unit, tree));
        }

        private long line(long position) {
            return position < 0 ? 0 : unit.getLineMap().getLineNumber(position);
        }
    }
}
