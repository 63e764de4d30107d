import com.sun.source.tree.ClassTree;
import com.sun.source.tree.CompilationUnitTree;
import com.sun.source.tree.LineMap;
import com.sun.source.tree.MethodInvocationTree;
import com.sun.source.tree.MethodTree;
import com.sun.source.tree.NewClassTree;
import com.sun.source.tree.Tree;
import com.sun.source.util.JavacTask;
import com.sun.source.util.TreePath;
import com.sun.source.util.TreePathScanner;
import com.sun.source.util.Trees;
import java.io.IOException;
import java.nio.file.Path;
import java.util.ArrayList;
import java.util.Collections;
import java.util.HashMap;
import java.util.LinkedHashSet;
import java.util.List;
import java.util.Map;
import java.util.Set;
import java.util.TreeMap;
import java.util.TreeSet;
import javax.lang.model.element.Element;
import javax.tools.JavaCompiler;
import javax.tools.StandardJavaFileManager;
import javax.tools.ToolProvider;

/** The class as javac reads it: its trees, what each name means, and who calls whom. */
final class Source {
    private final CompilationUnitTree unit;
    private final Trees trees;
    /** Of each own method the own methods it calls. */
    final Map<String, Set<String>> calls = new TreeMap<>();
    /** What is called or made of the library, with its place. */
    final Map<String, Integer> library = new TreeMap<>();

    Source(Path file) throws IOException {
        JavaCompiler compiler = ToolProvider.getSystemJavaCompiler();
        StandardJavaFileManager files = compiler.getStandardFileManager(null, null, null);
        JavacTask task = (JavacTask) compiler.getTask(null, files, null, List.of("--release", "17", "-proc:none"), null,
            files.getJavaFileObjects(file));
        unit = task.parse().iterator().next();
        task.analyze();
        trees = Trees.instance(task);
        new Calls().scan(unit, null);
    }

    void look(TreePathScanner<Void, Void> scanner) {
        scanner.scan(unit, null);
    }

    Element element(TreePath path) {
        return trees.getElement(path);
    }

    String type(TreePath path) {
        return String.valueOf(trees.getTypeMirror(path));
    }

    long line(Tree tree) {
        return lines().getLineNumber(trees.getSourcePositions().getStartPosition(unit, tree));
    }

    long linesOf(Tree tree) {
        return lines().getLineNumber(trees.getSourcePositions().getEndPosition(unit, tree)) - line(tree) + 1;
    }

    private LineMap lines() {
        return unit.getLineMap();
    }

    static String name(Element method) {
        return method.getEnclosingElement() + "." + method;
    }

    /** The methods that come to themselves again by calls. */
    Set<String> recursive() {
        Set<String> found = new TreeSet<>();
        for (String method : calls.keySet()) {
            if (reached(method).contains(method)) {
                found.add(method);
            }
        }
        return found;
    }

    Set<String> reached(String method) {
        Set<String> found = new LinkedHashSet<>();
        List<String> open = new ArrayList<>(calls.getOrDefault(method, Set.of()));
        while (!open.isEmpty()) {
            String next = open.remove(open.size() - 1);
            if (found.add(next)) {
                open.addAll(calls.getOrDefault(next, Set.of()));
            }
        }
        return found;
    }

    /** The longest chain of calls from a method on, in which those of a recursion do not count. */
    List<String> chain(String method, Set<String> recursive, Map<String, List<String>> known) {
        if (known.containsKey(method)) {
            return known.get(method);
        }
        known.put(method, List.of());
        List<String> longest = List.of();
        for (String next : calls.getOrDefault(method, Set.of())) {
            List<String> chain = chain(next, recursive, known);
            longest = chain.size() > longest.size() ? chain : longest;
        }
        List<String> own = new ArrayList<>(recursive.contains(method) ? List.of() : List.of(method));
        own.addAll(longest);
        known.put(method, Collections.unmodifiableList(own));
        return own;
    }

    List<String> longestChain() {
        Set<String> recursive = recursive();
        List<String> longest = List.of();
        for (String method : calls.keySet()) {
            List<String> chain = chain(method, recursive, new HashMap<>());
            longest = chain.size() > longest.size() ? chain : longest;
        }
        return longest;
    }

    private final class Calls extends TreePathScanner<Void, Void> {
        private String within = "";

        @Override
        public Void visitClass(ClassTree tree, Void nothing) {
            String before = within;
            within = "fields of " + element(getCurrentPath());
            super.visitClass(tree, nothing);
            within = before;
            return null;
        }

        @Override
        public Void visitMethod(MethodTree tree, Void nothing) {
            String before = within;
            within = name(element(getCurrentPath()));
            calls.computeIfAbsent(within, method -> new TreeSet<>());
            super.visitMethod(tree, nothing);
            within = before;
            return null;
        }

        @Override
        public Void visitMethodInvocation(MethodInvocationTree tree, Void nothing) {
            note(tree);
            return super.visitMethodInvocation(tree, nothing);
        }

        @Override
        public Void visitNewClass(NewClassTree tree, Void nothing) {
            note(tree);
            return super.visitNewClass(tree, nothing);
        }

        private void note(Tree tree) {
            String called = name(element(getCurrentPath()));
            if (called.startsWith("WaistSand")) {
                calls.computeIfAbsent(within, method -> new TreeSet<>()).add(called);
            } else {
                library.putIfAbsent(called, (int) line(tree));
            }
        }
    }
}
