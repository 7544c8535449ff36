import com.sun.source.tree.BinaryTree;
import com.sun.source.tree.CompilationUnitTree;
import com.sun.source.tree.CompoundAssignmentTree;
import com.sun.source.tree.ExpressionTree;
import com.sun.source.tree.LiteralTree;
import com.sun.source.tree.MethodInvocationTree;
import com.sun.source.tree.MethodTree;
import com.sun.source.tree.NewClassTree;
import com.sun.source.tree.Tree;
import com.sun.source.tree.TypeCastTree;
import com.sun.source.tree.VariableTree;
import com.sun.source.util.JavacTask;
import com.sun.source.util.TreePath;
import com.sun.source.util.TreePathScanner;
import com.sun.source.util.Trees;
import java.io.IOException;
import java.nio.file.Path;
import java.util.ArrayList;
import java.util.HashMap;
import java.util.LinkedHashMap;
import java.util.LinkedHashSet;
import java.util.List;
import java.util.Map;
import java.util.Set;
import java.util.TreeSet;
import javax.lang.model.element.Element;
import javax.lang.model.element.TypeElement;
import javax.lang.model.element.VariableElement;
import javax.tools.JavaCompiler;
import javax.tools.StandardJavaFileManager;
import javax.tools.ToolProvider;

/** What LANGUAGE.md asks of calls: how deep they go, that none calls itself, and what of the library they use. */
public final class LanguageCallsTest {
    private static final String PROGRAM = "src/main/java/HeapGames.java";
    private static final int DEEPEST = 8;
    /** Of rule 4 only what the program uses now; whoever adds to this list reads the rule again. */
    private static final Set<String> LIBRARY = Set.of("java.lang.Math.max", "java.lang.Math.min",
            "java.lang.String.length", "java.lang.String.charAt", "java.lang.String.isEmpty", "java.util.Arrays.fill");
    private static final Set<String> TYPES = Set.of("int", "long", "boolean", "int[]", "java.lang.String");
    private static int wrong = 0;

    public static void main(String[] args) throws IOException {
        JavaCompiler compiler = ToolProvider.getSystemJavaCompiler();
        if (compiler == null) {
            System.out.println("this java has no compiler in it to read the program with");
            return;
        }
        try (StandardJavaFileManager files = compiler.getStandardFileManager(null, null, null)) {
            JavacTask task = (JavacTask) compiler.getTask(null, files, null, List.of("-proc:none"), null,
                    files.getJavaFileObjects(Path.of(PROGRAM)));
            Iterable<? extends CompilationUnitTree> units = task.parse();
            task.analyze();
            Reader reader = new Reader(Trees.instance(task));
            reader.scan(units, null);
            judge(reader);
        }
        if (wrong != 0) {
            System.exit(1);
        }
    }

    private static void judge(Reader reader) {
        hold(reader.calls.size() > 100, "the program has methods: " + reader.calls.size());
        Set<String> used = new TreeSet<>(reader.library);
        used.removeAll(LIBRARY);
        hold(used.isEmpty(), "rule 4: not in the list of what is used of the library: " + used);
        List<Element> deepest = List.of();
        for (Element method : reader.calls.keySet()) {
            List<Element> chain = deepestFrom(method, reader.calls, new HashMap<>(), new LinkedHashSet<>());
            deepest = chain.size() > deepest.size() ? chain : deepest;
        }
        hold(deepest.size() <= DEEPEST, "rule 11: these calls go deeper than " + DEEPEST + ": " + deepest);
        System.out.println("calls go " + deepest.size() + " deep: " + deepest);
    }

    /** The longest chain of the program's own methods, the first one counted. */
    private static List<Element> deepestFrom(Element method, Map<Element, Set<Element>> calls,
            Map<Element, List<Element>> known, Set<Element> open) {
        if (known.containsKey(method)) {
            return known.get(method);
        }
        if (!open.add(method)) {
            hold(false, "rule 8: recursion without a guard: " + open);
            return List.of();
        }
        List<Element> longest = List.of();
        for (Element called : calls.getOrDefault(method, Set.of())) {
            List<Element> chain = deepestFrom(called, calls, known, open);
            longest = chain.size() > longest.size() ? chain : longest;
        }
        open.remove(method);
        List<Element> whole = new ArrayList<>(List.of(method));
        whole.addAll(longest);
        known.put(method, whole);
        return whole;
    }

    private static void hold(boolean holds, String rule) {
        if (!holds) {
            wrong++;
            System.out.println("broken: " + rule);
        }
    }

    /** Collects for each method of the program those that it calls, and all that is called outside the program. */
    private static final class Reader extends TreePathScanner<Void, Void> {
        private final Trees trees;
        private final Map<Element, Set<Element>> calls = new LinkedHashMap<>();
        private final Set<String> library = new TreeSet<>();

        Reader(Trees trees) {
            this.trees = trees;
        }

        private Element elementAt(Tree tree) {
            return trees.getElement(new TreePath(getCurrentPath(), tree));
        }

        /** A call in a field's initialiser is made by every constructor of the class. */
        private void note(Element called) {
            if (!called.getEnclosingElement().toString().startsWith("HeapGames")) {
                library.add(called.getEnclosingElement() + "." + called.getSimpleName());
                return;
            }
            for (TreePath at = getCurrentPath(); at != null; at = at.getParentPath()) {
                Element owner = trees.getElement(at);
                if (at.getLeaf() instanceof MethodTree) {
                    calls.computeIfAbsent(owner, any -> new LinkedHashSet<>()).add(called);
                    return;
                }
                if (owner instanceof TypeElement type) {
                    for (Element member : type.getEnclosedElements()) {
                        if (member.getSimpleName().contentEquals("<init>")) {
                            calls.computeIfAbsent(member, any -> new LinkedHashSet<>()).add(called);
                        }
                    }
                    return;
                }
            }
        }

        @Override
        public Void visitMethod(MethodTree tree, Void none) {
            calls.computeIfAbsent(trees.getElement(getCurrentPath()), any -> new LinkedHashSet<>());
            return super.visitMethod(tree, none);
        }

        @Override
        public Void visitMethodInvocation(MethodInvocationTree tree, Void none) {
            Element called = elementAt(tree);
            if (!called.toString().equals("Object()")) {
                note(called);
            }
            return super.visitMethodInvocation(tree, none);
        }

        @Override
        public Void visitNewClass(NewClassTree tree, Void none) {
            note(elementAt(tree));
            return super.visitNewClass(tree, none);
        }

        @Override
        public Void visitTypeCast(TypeCastTree tree, Void none) {
            hold(false, "rule 7: there are no casts that could fail: " + tree);
            return super.visitTypeCast(tree, none);
        }

        @Override
        public Void visitVariable(VariableTree tree, Void none) {
            String type = trees.getElement(getCurrentPath()).asType().toString();
            hold(TYPES.contains(type) || type.startsWith("HeapGames."), "rule 3: the type of " + tree);
            return super.visitVariable(tree, none);
        }

        @Override
        public Void visitBinary(BinaryTree tree, Void none) {
            boolean divides = tree.getKind() == Tree.Kind.DIVIDE || tree.getKind() == Tree.Kind.REMAINDER;
            hold(!divides || isNumberButZero(tree.getRightOperand()), "rule 7: a divisor is a constant: " + tree);
            return super.visitBinary(tree, none);
        }

        @Override
        public Void visitCompoundAssignment(CompoundAssignmentTree tree, Void none) {
            boolean divides = tree.getKind() == Tree.Kind.DIVIDE_ASSIGNMENT
                    || tree.getKind() == Tree.Kind.REMAINDER_ASSIGNMENT;
            hold(!divides || isNumberButZero(tree.getExpression()), "rule 7: a divisor is a constant: " + tree);
            return super.visitCompoundAssignment(tree, none);
        }

        private boolean isNumberButZero(ExpressionTree divisor) {
            Object value = null;
            if (divisor instanceof LiteralTree literal) {
                value = literal.getValue();
            } else if (elementAt(divisor) instanceof VariableElement variable) {
                value = variable.getConstantValue();
            }
            return value instanceof Integer number && number != 0;
        }
    }
}
