import com.sun.source.tree.CompilationUnitTree;
import com.sun.source.tree.MethodInvocationTree;
import com.sun.source.tree.MethodTree;
import com.sun.source.tree.NewClassTree;
import com.sun.source.tree.Tree;
import com.sun.source.util.JavacTask;
import com.sun.source.util.TreePathScanner;
import com.sun.source.util.Trees;
import java.io.IOException;
import java.nio.charset.StandardCharsets;
import java.nio.file.Path;
import java.util.ArrayDeque;
import java.util.Deque;
import java.util.HashMap;
import java.util.LinkedHashMap;
import java.util.LinkedHashSet;
import java.util.List;
import java.util.Map;
import java.util.Set;
import javax.lang.model.element.Element;
import javax.lang.model.element.Modifier;
import javax.tools.JavaCompiler;
import javax.tools.StandardJavaFileManager;
import javax.tools.ToolProvider;

/** Who calls whom in the class, as javac itself finds it: rules 4, 8 and 11 of LANGUAGE.md. */
public final class CallsTest {
    private static final int DEEPEST = 8;
    private static final Set<String> LIBRARY = Set.of("System.arraycopy", "Math.abs");

    private final Map<Element, Set<Element>> calls = new LinkedHashMap<>();
    private final Set<Element> own = new LinkedHashSet<>();
    private final Map<Element, Set<Element>> reached = new HashMap<>();
    private final Map<Element, Deque<Element>> deepest = new HashMap<>();

    public static void main(String[] args) throws IOException {
        CallsTest test = new CallsTest();
        test.read(Path.of("src/main/java/MemoByWeight.java"));
        test.library();
        test.recursion();
        test.depth();
        Script.end();
    }

    private void read(Path file) throws IOException {
        JavaCompiler javac = ToolProvider.getSystemJavaCompiler();
        try (StandardJavaFileManager files = javac.getStandardFileManager(null, null, StandardCharsets.UTF_8)) {
            JavacTask task = (JavacTask) javac.getTask(null, files, null, null, null, files.getJavaFileObjects(file));
            Iterable<? extends CompilationUnitTree> units = task.parse();
            task.analyze();
            for (CompilationUnitTree unit : units) {
                new Calls(Trees.instance(task)).scan(unit, null);
            }
        }
    }

    private final class Calls extends TreePathScanner<Void, Element> {
        private final Trees trees;

        Calls(Trees trees) {
            this.trees = trees;
        }

        @Override
        public Void visitMethod(MethodTree method, Element around) {
            Element it = trees.getElement(getCurrentPath());
            own.add(it);
            return super.visitMethod(method, it);
        }

        @Override
        public Void visitMethodInvocation(MethodInvocationTree call, Element caller) {
            note(call, caller);
            return super.visitMethodInvocation(call, caller);
        }

        @Override
        public Void visitNewClass(NewClassTree made, Element caller) {
            note(made, caller);
            return super.visitNewClass(made, caller);
        }

        private void note(Tree call, Element caller) {
            if (caller != null) {
                calls.computeIfAbsent(caller, c -> new LinkedHashSet<>()).add(trees.getElement(getCurrentPath()));
            }
        }
    }

    private static String name(Element method) {
        return method.getEnclosingElement().getSimpleName() + "." + method.getSimpleName();
    }

    private Set<Element> calledBy(Element method) {
        return calls.getOrDefault(method, Set.of());
    }

    private void library() {
        if (own.size() < 27) {
            Script.wrong("only " + own.size() + " methods were found");
        }
        for (Element caller : own) {
            for (Element called : calledBy(caller)) {
                boolean isObjects = name(called).equals("Object.<init>");
                if (!own.contains(called) && !isObjects && !LIBRARY.contains(name(called))) {
                    Script.wrong("rule 4: " + name(caller) + " calls " + name(called));
                }
            }
        }
    }

    // ---- rule 8

    private Set<Element> reachedFrom(Element method) {
        Set<Element> known = reached.get(method);
        if (known == null) {
            known = new LinkedHashSet<>();
            Deque<Element> ahead = new ArrayDeque<>(calledBy(method));
            while (!ahead.isEmpty()) {
                Element next = ahead.pop();
                if (known.add(next)) {
                    ahead.addAll(calledBy(next));
                }
            }
            reached.put(method, known);
        }
        return known;
    }

    private boolean isRecursive(Element method) {
        return reachedFrom(method).contains(method);
    }

    private void recursion() {
        for (Element method : own) {
            if (isRecursive(method) && !method.getModifiers().contains(Modifier.PRIVATE)) {
                Script.wrong("rule 8: " + name(method) + " calls itself, but isn't private");
            }
        }
    }

    // ---- rule 11

    /** Methods that call one another count as one: that is recursion, whose depth rule 8 bounds. */
    private boolean isSameRecursion(Element a, Element b) {
        return reachedFrom(a).contains(b) && reachedFrom(b).contains(a);
    }

    private Deque<Element> deepestFrom(Element method) {
        Deque<Element> known = deepest.get(method);
        if (known == null) {
            known = new ArrayDeque<>();
            for (Element member : own) {
                if (member.equals(method) || isSameRecursion(member, method)) {
                    for (Element called : calledBy(member)) {
                        if (own.contains(called) && !called.equals(method) && !isSameRecursion(called, method)
                            && deepestFrom(called).size() > known.size()) {
                            known = deepestFrom(called);
                        }
                    }
                }
            }
            known = new ArrayDeque<>(known);
            known.push(method);
            deepest.put(method, known);
        }
        return known;
    }

    private void depth() {
        for (Element method : own) {
            if (method.getModifiers().contains(Modifier.PUBLIC)) {
                List<String> path = deepestFrom(method).stream().map(CallsTest::name).toList();
                if (path.size() > DEEPEST) {
                    Script.wrong("rule 11: calls go " + path.size() + " deep: " + path);
                }
            }
        }
    }
}
