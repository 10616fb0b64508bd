import com.sun.source.tree.CompilationUnitTree;
import com.sun.source.tree.MethodInvocationTree;
import com.sun.source.tree.MethodTree;
import com.sun.source.tree.NewClassTree;
import com.sun.source.util.JavacTask;
import com.sun.source.util.TreePathScanner;
import com.sun.source.util.Trees;
import java.io.IOException;
import java.nio.file.Path;
import java.util.LinkedHashMap;
import java.util.LinkedHashSet;
import java.util.List;
import java.util.Map;
import java.util.Set;
import javax.lang.model.element.Element;
import javax.lang.model.element.ExecutableElement;
import javax.tools.JavaCompiler;
import javax.tools.StandardJavaFileManager;
import javax.tools.ToolProvider;

/** Who calls whom in the class, held against rules 4, 8 and 11 of LANGUAGE.md. */
public final class CallsTest {
    private static final Check CHECK = new Check();
    private static final int DEEPEST = 8;
    private static final int MOST_PARAMETERS = 7;

    /** What is used of the library that rule 4 lists; a call that comes anew is looked up there first. */
    private static final Set<String> LIBRARY = Set.of(
        "java.lang.Object.Object()",
        "java.lang.String.length()", "java.lang.String.charAt(int)",
        "java.lang.Math.abs(int)", "java.lang.Math.abs(long)", "java.lang.Math.max(int,int)", "java.lang.Math.min(int,int)",
        "java.lang.Integer.bitCount(int)", "java.lang.Integer.compare(int,int)",
        "java.lang.System.arraycopy(java.lang.Object,int,java.lang.Object,int,int)");

    /** Each method of the class, and what it calls. */
    private static final Map<String, Set<String>> CALLS = new LinkedHashMap<>();

    /** Gathers the calls of each method by what they mean, not by their names alone. */
    private static final class Gatherer extends TreePathScanner<Void, Void> {
        final Trees trees;
        String caller = "";

        Gatherer(Trees trees) {
            this.trees = trees;
        }

        private static String named(Element e) {
            return e.getEnclosingElement() + "." + e;
        }

        private void add() {
            Element called = trees.getElement(getCurrentPath());
            if (called instanceof ExecutableElement) {
                CALLS.computeIfAbsent(caller, c -> new LinkedHashSet<>()).add(named(called));
            }
        }

        @Override
        public Void visitMethod(MethodTree method, Void none) {
            String outer = caller;
            caller = named(trees.getElement(getCurrentPath()));
            CALLS.putIfAbsent(caller, new LinkedHashSet<>());
            CHECK.holds(caller + " takes seven parameters at most", method.getParameters().size() <= MOST_PARAMETERS);
            super.visitMethod(method, none);
            caller = outer;
            return null;
        }

        @Override
        public Void visitMethodInvocation(MethodInvocationTree call, Void none) {
            add();
            return super.visitMethodInvocation(call, none);
        }

        @Override
        public Void visitNewClass(NewClassTree made, Void none) {
            add();
            return super.visitNewClass(made, none);
        }
    }

    public static void main(String[] args) throws IOException {
        gather(Path.of("src/main/java/FortyHouses.java"));
        CHECK.holds("methods were found", CALLS.size() > 29);
        for (Map.Entry<String, Set<String>> entry : CALLS.entrySet()) {
            for (String called : entry.getValue()) {
                CHECK.holds(entry.getKey() + " may call " + called, CALLS.containsKey(called) || LIBRARY.contains(called));
            }
            int depth = depth(entry.getKey(), 0);
            CHECK.holds(entry.getKey() + " ends eight calls deep at most: " + depth, depth <= DEEPEST);
        }
        CHECK.end();
    }

    private static void gather(Path path) throws IOException {
        JavaCompiler compiler = ToolProvider.getSystemJavaCompiler();
        try (StandardJavaFileManager files = compiler.getStandardFileManager(null, null, null)) {
            JavacTask task = (JavacTask) compiler.getTask(null, files, null, List.of("-proc:none"), null,
                files.getJavaFileObjects(path));
            Iterable<? extends CompilationUnitTree> units = task.parse();
            task.analyze();
            for (CompilationUnitTree unit : units) {
                new Gatherer(Trees.instance(task)).scan(unit, null);
            }
        }
    }

    /** How many calls stand open at once; one that calls itself comes out as too deep. */
    private static int depth(String method, int open) {
        int deepest = open + 1;
        if (open <= DEEPEST) {
            for (String called : CALLS.getOrDefault(method, Set.of())) {
                deepest = Math.max(deepest, depth(called, open + 1));
            }
        }
        return deepest;
    }
}
