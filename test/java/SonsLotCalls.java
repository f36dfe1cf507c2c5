import com.sun.source.tree.CompilationUnitTree;
import com.sun.source.tree.MethodInvocationTree;
import com.sun.source.tree.MethodTree;
import com.sun.source.tree.NewClassTree;
import com.sun.source.util.JavacTask;
import com.sun.source.util.TreePathScanner;
import com.sun.source.util.Trees;
import java.io.IOException;
import java.nio.file.Path;
import java.util.ArrayDeque;
import java.util.ArrayList;
import java.util.Arrays;
import java.util.Deque;
import java.util.HashMap;
import java.util.List;
import java.util.Map;
import java.util.Set;
import java.util.TreeMap;
import java.util.TreeSet;
import javax.lang.model.element.Element;
import javax.tools.JavaCompiler;
import javax.tools.StandardJavaFileManager;
import javax.tools.ToolProvider;

/** What LANGUAGE.md asks of calls within the program: how deep they go (rule 11) and which methods recur (rule 8). */
public final class SonsLotCalls {
    private static final Path SOURCE = Path.of("src/main/java/SonsLot.java");
    private static final int DEEPEST = 8;

    /** Each carries a depth, or the house that comes next, which ends it. */
    private static final Set<String> RECUR = new TreeSet<>(Arrays.asList("SonsLot.leastSpread", "Reader.readExpr",
        "Reader.readAnd", "Reader.readNot", "Reader.readTest", "Reader.readSum", "Reader.readProduct",
        "Reader.readPart"));

    /** By method whom it calls, the library's methods too. */
    private static final Map<String, Set<String>> calls = new TreeMap<>();
    private static final Map<String, Set<String>> reached = new HashMap<>();
    private static final Map<String, List<String>> longest = new HashMap<>();
    private static int wrong = 0;

    public static void main(String[] args) throws IOException {
        readCalls();
        Set<String> recur = new TreeSet<>();
        for (String method : calls.keySet()) {
            reached.put(method, allFrom(method));
            if (recurs(method)) {
                recur.add(method);
            }
        }
        due("calls were found", calls.size() > 100);
        due("rule 8: these recur: " + recur, recur.equals(RECUR));
        int deepest = 0;
        for (String method : calls.keySet()) {
            List<String> way = longestWay(method);
            deepest = Math.max(deepest, way.size());
            due("rule 11: " + way.size() + " deep: " + String.join(" > ", way), way.size() <= DEEPEST);
        }
        System.out.println(calls.size() + " methods, calls go " + deepest + " deep");
        if (wrong != 0) {
            System.exit(1);
        }
    }

    private static void due(String what, boolean holds) {
        if (!holds) {
            wrong++;
            System.out.println("not as due: " + what);
        }
    }

    private static void readCalls() throws IOException {
        JavaCompiler compiler = ToolProvider.getSystemJavaCompiler();
        try (StandardJavaFileManager files = compiler.getStandardFileManager(null, null, null)) {
            JavacTask task = (JavacTask) compiler.getTask(null, files, null, null, null, files.getJavaFileObjects(SOURCE));
            Iterable<? extends CompilationUnitTree> units = task.parse();
            task.analyze();
            for (CompilationUnitTree unit : units) {
                new CallScanner(Trees.instance(task)).scan(unit, null);
            }
        }
    }

    private static final class CallScanner extends TreePathScanner<Void, String> {
        private final Trees trees;

        CallScanner(Trees trees) {
            this.trees = trees;
        }

        private String nameHere() {
            Element method = trees.getElement(getCurrentPath());
            return method.getEnclosingElement().getSimpleName() + "." + method.getSimpleName();
        }

        @Override
        public Void visitMethod(MethodTree method, String within) {
            String name = nameHere();
            calls.putIfAbsent(name, new TreeSet<>());
            return super.visitMethod(method, name);
        }

        @Override
        public Void visitMethodInvocation(MethodInvocationTree call, String within) {
            calls.get(within).add(nameHere());
            return super.visitMethodInvocation(call, within);
        }

        @Override
        public Void visitNewClass(NewClassTree made, String within) {
            if (within != null) {
                calls.get(within).add(nameHere());
            }
            return super.visitNewClass(made, within);
        }
    }

    private static Set<String> allFrom(String method) {
        Set<String> met = new TreeSet<>();
        Deque<String> open = new ArrayDeque<>(calls.get(method));
        while (!open.isEmpty()) {
            String next = open.poll();
            if (met.add(next)) {
                open.addAll(calls.getOrDefault(next, Set.of()));
            }
        }
        return met;
    }

    private static boolean recurs(String method) {
        return reached.getOrDefault(method, Set.of()).contains(method);
    }

    /** Methods that call one another count as one. */
    private static List<String> longestWay(String method) {
        if (longest.containsKey(method)) {
            return longest.get(method);
        }
        Set<String> together = new TreeSet<>(Set.of(method));
        for (String other : reached.getOrDefault(method, Set.of())) {
            if (reached.getOrDefault(other, Set.of()).contains(method)) {
                together.add(other);
            }
        }
        List<String> best = List.of();
        for (String caller : together) {
            for (String called : calls.getOrDefault(caller, Set.of())) {
                if (!together.contains(called) && longestWay(called).size() > best.size()) {
                    best = longestWay(called);
                }
            }
        }
        List<String> way = new ArrayList<>(List.of(method));
        way.addAll(best);
        longest.put(method, way);
        return way;
    }
}
