import com.sun.source.tree.BinaryTree;
import com.sun.source.tree.ClassTree;
import com.sun.source.tree.CompilationUnitTree;
import com.sun.source.tree.MethodInvocationTree;
import com.sun.source.tree.MethodTree;
import com.sun.source.tree.NewClassTree;
import com.sun.source.tree.Tree;
import com.sun.source.util.JavacTask;
import com.sun.source.util.TreePathScanner;
import com.sun.source.util.Trees;
import java.io.IOException;
import java.nio.file.Path;
import java.util.ArrayList;
import java.util.HashMap;
import java.util.LinkedHashMap;
import java.util.List;
import java.util.Map;
import java.util.Set;
import java.util.TreeSet;
import javax.lang.model.element.Element;
import javax.lang.model.type.TypeMirror;
import javax.tools.JavaCompiler;
import javax.tools.StandardJavaFileManager;
import javax.tools.ToolProvider;

/** What the methods of the class call, as the compiler sees it: how deep (rules 8 and 11), and of the library just what rule 4 lists. */
public final class CallsTest {
    private static final Path SOURCE = Path.of("src/main/java/BreathOnLoan.java");
    private static final int MOST_DEEP = 8;
    private static final int MOST_AT_ONCE = 300;
    /** Eight may be open around one another, the ninth is refused, and the sum around all of them is one more. */
    private static final int LEVELS = 10;
    private static final Set<String> LIBRARY = Set.of("String.length", "String.charAt", "String.isEmpty", "String.equals",
            "String.indexOf", "String.substring", "String.toCharArray", "Math.max", "Math.min", "Math.abs", "Integer.bitCount",
            "System.arraycopy", "Arrays.copyOf", "Arrays.copyOfRange", "Arrays.fill", "Array.clone");
    private static final Check CHECK = new Check();

    private CallsTest() {
    }

    public static void main(String[] args) throws IOException {
        Calls calls = read();
        CHECK.yes("many methods were read", calls.of.size() > 100);
        libraryIsListed(calls);
        textsAreNotJoined(calls);
        callsAreNotDeep(calls);
        recursionIsInOnePlace(calls);
        CHECK.finish("CallsTest");
    }

    private static Calls read() throws IOException {
        JavaCompiler compiler = ToolProvider.getSystemJavaCompiler();
        try (StandardJavaFileManager files = compiler.getStandardFileManager(null, null, null)) {
            JavacTask task = (JavacTask) compiler.getTask(null, files, null, List.of("-proc:none"), null, files.getJavaFileObjects(SOURCE));
            Calls calls = new Calls(Trees.instance(task));
            List<CompilationUnitTree> units = new ArrayList<>();
            task.parse().forEach(units::add);
            task.analyze();
            units.forEach(unit -> calls.scan(unit, null));
            return calls;
        }
    }

    private static void libraryIsListed(Calls calls) {
        for (String name : calls.outside) {
            CHECK.yes("rule 4 lists " + name, LIBRARY.contains(name));
        }
        for (String name : calls.made) {
            CHECK.yes("objects of the own classes alone are made: " + name, name.startsWith("BreathOnLoan."));
        }
    }

    private static void textsAreNotJoined(Calls calls) {
        CHECK.same("texts that are joined by + or held against one another by ==", calls.textOperators, 0);
    }

    private static void callsAreNotDeep(Calls calls) {
        for (String method : calls.of.keySet()) {
            int deep = calls.depth(method);
            CHECK.yes(method + " goes " + deep + " deep, that is at most " + MOST_DEEP, deep <= MOST_DEEP);
        }
    }

    private static void recursionIsInOnePlace(Calls calls) {
        Set<String> group = new TreeSet<>();
        for (String method : calls.of.keySet()) {
            if (calls.reached(method).contains(method)) {
                group.add(method);
                CHECK.yes(method + " calls itself in the parser alone", method.startsWith("BreathOnLoan.Parser."));
            }
        }
        int most = group.size() * LEVELS + MOST_DEEP;
        CHECK.yes(most + " calls at most stand open at once", most < MOST_AT_ONCE);
    }

    /** Each method with those of the own ones that it calls, and what else it uses. */
    private static final class Calls extends TreePathScanner<Void, Void> {
        final Map<String, Set<String>> of = new LinkedHashMap<>();
        final Set<String> outside = new TreeSet<>();
        final Set<String> made = new TreeSet<>();
        int textOperators;
        private final Map<String, Integer> depths = new HashMap<>();
        private final Trees trees;
        private String current = "";

        Calls(Trees trees) {
            this.trees = trees;
        }

        @Override
        public Void visitClass(ClassTree tree, Void nothing) {
            String around = current;
            current = trees.getElement(getCurrentPath()) + ".fields";
            super.visitClass(tree, nothing);
            current = around;
            return null;
        }

        @Override
        public Void visitMethod(MethodTree tree, Void nothing) {
            String around = current;
            current = nameOf(trees.getElement(getCurrentPath()));
            of.computeIfAbsent(current, key -> new TreeSet<>());
            super.visitMethod(tree, nothing);
            current = around;
            return null;
        }

        @Override
        public Void visitMethodInvocation(MethodInvocationTree tree, Void nothing) {
            add(trees.getElement(getCurrentPath()));
            return super.visitMethodInvocation(tree, nothing);
        }

        @Override
        public Void visitNewClass(NewClassTree tree, Void nothing) {
            Element maker = trees.getElement(getCurrentPath());
            made.add(maker.getEnclosingElement().toString());
            add(maker);
            return super.visitNewClass(tree, nothing);
        }

        @Override
        public Void visitBinary(BinaryTree tree, Void nothing) {
            boolean isSign = tree.getKind() == Tree.Kind.PLUS || tree.getKind() == Tree.Kind.EQUAL_TO
                    || tree.getKind() == Tree.Kind.NOT_EQUAL_TO;
            if (isSign && (isText(tree.getLeftOperand()) || isText(tree.getRightOperand()))) {
                textOperators++;
            }
            return super.visitBinary(tree, nothing);
        }

        private boolean isText(Tree tree) {
            TypeMirror type = trees.getTypeMirror(trees.getPath(getCurrentPath().getCompilationUnit(), tree));
            return type != null && type.toString().equals("java.lang.String");
        }

        private static String nameOf(Element method) {
            return method.getEnclosingElement() + "." + method.getSimpleName();
        }

        private void add(Element called) {
            String name = nameOf(called);
            if (name.startsWith("BreathOnLoan")) {
                of.computeIfAbsent(current, key -> new TreeSet<>()).add(name);
            } else if (!name.equals("java.lang.Object.<init>")) {
                outside.add(called.getEnclosingElement().getSimpleName() + "." + called.getSimpleName());
            }
        }

        Set<String> reached(String method) {
            Set<String> found = new TreeSet<>();
            List<String> open = new ArrayList<>(of.getOrDefault(method, Set.of()));
            while (!open.isEmpty()) {
                String next = open.remove(open.size() - 1);
                if (found.add(next)) {
                    open.addAll(of.getOrDefault(next, Set.of()));
                }
            }
            return found;
        }

        /** How many methods stand open at the deepest, those that call one another counting as one. */
        int depth(String method) {
            Integer known = depths.get(method);
            if (known != null) {
                return known;
            }
            int deepest = 0;
            for (String member : groupOf(method)) {
                for (String called : of.getOrDefault(member, Set.of())) {
                    if (!groupOf(method).contains(called)) {
                        deepest = Math.max(deepest, depth(called));
                    }
                }
            }
            depths.put(method, deepest + 1);
            return deepest + 1;
        }

        private Set<String> groupOf(String method) {
            Set<String> group = new TreeSet<>(Set.of(method));
            for (String other : reached(method)) {
                if (reached(other).contains(method)) {
                    group.add(other);
                }
            }
            return group;
        }
    }
}
