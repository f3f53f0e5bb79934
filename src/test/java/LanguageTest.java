import com.sun.source.tree.ClassTree;
import com.sun.source.tree.CompilationUnitTree;
import com.sun.source.tree.LineMap;
import com.sun.source.tree.MethodInvocationTree;
import com.sun.source.tree.MethodTree;
import com.sun.source.tree.Tree;
import com.sun.source.tree.VariableTree;
import com.sun.source.util.JavacTask;
import com.sun.source.util.TreePathScanner;
import com.sun.source.util.Trees;
import java.io.File;
import java.util.ArrayList;
import java.util.HashMap;
import java.util.HashSet;
import java.util.LinkedHashMap;
import java.util.LinkedHashSet;
import java.util.List;
import java.util.Map;
import java.util.Set;
import java.util.TreeSet;
import javax.lang.model.element.Element;
import javax.lang.model.element.ElementKind;
import javax.lang.model.element.ExecutableElement;
import javax.lang.model.element.Modifier;
import javax.tools.JavaCompiler;
import javax.tools.StandardJavaFileManager;
import javax.tools.ToolProvider;

/** Holds the class against the rules of LANGUAGE.md that can be read off its text. Argument: the file. */
public final class LanguageTest {
    private static final Check C = new Check("LanguageTest");
    private static final Set<String> FORBIDDEN = Set.of("THROW", "TRY", "CATCH", "LAMBDA_EXPRESSION", "MEMBER_REFERENCE",
            "ASSERT", "SYNCHRONIZED", "IMPORT", "PACKAGE", "ANNOTATION", "SWITCH_EXPRESSION");
    private static final Set<String> LIBRARY = Set.of("java.lang.Integer.bitCount", "java.lang.Math.min",
            "java.lang.Math.max", "java.lang.Math.abs", "java.lang.System.arraycopy", "java.lang.Object.<init>");
    private static final String[] FACE = {
        "tree", "person", "people", "mend", "of", "feed", "law", "shade", "votes", "falls", "first", "left", "turn",
        "chair", "power", "lop", "byTurns", "deepest", "shadiest", "judge", "wishes", "save", "alike", "drawn", "noon",
        "sits", "lopped", "led", "image", "back", "undo", "redo", "body", "act", "trace", "keep", "row", "put",
        "element", "shift", "taken", "count"
    };

    private final Map<ExecutableElement, Set<ExecutableElement>> calls = new LinkedHashMap<>();
    private final Set<String> publicNames = new TreeSet<>();
    private final Set<String> hiddenNames = new TreeSet<>();
    private int classes;

    public static void main(String[] args) throws Exception {
        new LanguageTest().read(args[0]);
        C.end();
    }

    private void read(String file) throws Exception {
        JavaCompiler javac = ToolProvider.getSystemJavaCompiler();
        StandardJavaFileManager files = javac.getStandardFileManager(null, null, null);
        List<String> options = List.of("-proc:none");
        JavacTask task = (JavacTask) javac.getTask(null, files, null, options, null,
                files.getJavaFileObjects(new File(file)));
        CompilationUnitTree unit = task.parse().iterator().next();
        task.analyze();
        C.is("classes at the top", unit.getTypeDecls().size(), 1);
        C.is("imports", unit.getImports().size(), 0);
        new Rules(unit, Trees.instance(task)).scan(unit, null);
        C.so("some twelve classes, not " + classes, classes <= 12);
        C.so("the face and no more: " + publicNames, publicNames.equals(new TreeSet<>(List.of(FACE))));
        hiddenNames.retainAll(publicNames);
        C.so("no other method bears a public one's name: " + hiddenNames, hiddenNames.isEmpty());
        for (ExecutableElement method : calls.keySet()) {
            int deep = depthFrom(method, new HashMap<>());
            C.so(method + " goes eight deep at most, not " + deep, deep <= 8);
        }
    }

    /** The methods on the longest way down; those that call one another round count as one step each. */
    private int depthFrom(ExecutableElement method, Map<ExecutableElement, Integer> known) {
        if (known.containsKey(method)) return known.get(method);
        int deepest = 0;
        Set<ExecutableElement> round = roundOf(method);
        for (ExecutableElement member : round) {
            for (ExecutableElement called : calls.getOrDefault(member, Set.of())) {
                if (!round.contains(called)) deepest = Math.max(deepest, depthFrom(called, known));
            }
        }
        known.put(method, deepest + 1);
        return deepest + 1;
    }

    private Set<ExecutableElement> roundOf(ExecutableElement method) {
        Set<ExecutableElement> round = new LinkedHashSet<>();
        round.add(method);
        for (ExecutableElement other : reachedFrom(method)) {
            if (reachedFrom(other).contains(method)) round.add(other);
        }
        return round;
    }

    private Set<ExecutableElement> reachedFrom(ExecutableElement method) {
        Set<ExecutableElement> reached = new HashSet<>();
        List<ExecutableElement> open = new ArrayList<>(List.of(method));
        while (!open.isEmpty()) {
            ExecutableElement here = open.remove(open.size() - 1);
            for (ExecutableElement called : calls.getOrDefault(here, Set.of())) {
                if (reached.add(called)) open.add(called);
            }
        }
        return reached;
    }

    private final class Rules extends TreePathScanner<Void, Void> {
        private final CompilationUnitTree unit;
        private final Trees trees;
        private final LineMap lines;
        private ExecutableElement inside;

        Rules(CompilationUnitTree unit, Trees trees) {
            this.unit = unit;
            this.trees = trees;
            lines = unit.getLineMap();
        }

        private long line(Tree tree) {
            return lines.getLineNumber(trees.getSourcePositions().getStartPosition(unit, tree));
        }

        @Override
        public Void scan(Tree tree, Void none) {
            if (tree != null) C.so(tree.getKind() + " in line " + line(tree), !FORBIDDEN.contains(tree.getKind().name()));
            return super.scan(tree, none);
        }

        @Override
        public Void visitClass(ClassTree tree, Void none) {
            classes++;
            Set<Modifier> modifiers = tree.getModifiers().getFlags();
            boolean top = getCurrentPath().getParentPath().getLeaf() == unit;
            C.so(tree.getSimpleName() + " is final", modifiers.contains(Modifier.FINAL));
            C.so(tree.getSimpleName() + " is the public one or static",
                    modifiers.contains(top ? Modifier.PUBLIC : Modifier.STATIC));
            int fields = 0;
            for (Tree member : tree.getMembers()) {
                if (member instanceof VariableTree field && !field.getModifiers().getFlags().contains(Modifier.STATIC)) {
                    fields++;
                }
            }
            C.so(tree.getSimpleName() + " has some twenty fields, not " + fields, fields <= 20);
            return super.visitClass(tree, none);
        }

        @Override
        public Void visitMethod(MethodTree tree, Void none) {
            ExecutableElement method = (ExecutableElement) trees.getElement(getCurrentPath());
            long length = lines.getLineNumber(trees.getSourcePositions().getEndPosition(unit, tree)) - line(tree) + 1;
            C.so(method + " is of sixty lines at most, not " + length, length <= 60);
            C.so(method + " takes seven at most", tree.getParameters().size() <= 7);
            boolean top = method.getEnclosingElement().getEnclosingElement().getKind() == ElementKind.PACKAGE;
            boolean open = method.getModifiers().contains(Modifier.PUBLIC);
            if (method.getKind() == ElementKind.METHOD) {
                C.so(method + " is of the face or hidden", top ? open || method.getModifiers().contains(Modifier.PRIVATE)
                        : !open);
                (open ? publicNames : hiddenNames).add(method.getSimpleName().toString());
            }
            calls.put(method, new LinkedHashSet<>());
            inside = method;
            super.visitMethod(tree, none);
            inside = null;
            return null;
        }

        @Override
        public Void visitVariable(VariableTree tree, Void none) {
            Element element = trees.getElement(getCurrentPath());
            if (element.getModifiers().contains(Modifier.STATIC)) {
                C.so(tree.getName() + " is final", element.getModifiers().contains(Modifier.FINAL));
            }
            return super.visitVariable(tree, none);
        }

        @Override
        public Void visitMethodInvocation(MethodInvocationTree tree, Void none) {
            ExecutableElement called = (ExecutableElement) trees.getElement(
                    new com.sun.source.util.TreePath(getCurrentPath(), tree.getMethodSelect()));
            String owner = called.getEnclosingElement().toString();
            if (owner.startsWith("java")) {
                String name = owner + "." + called.getSimpleName();
                C.so(name + " in line " + line(tree), LIBRARY.contains(name));
            } else if (inside != null) {
                calls.get(inside).add(called);
            }
            return super.visitMethodInvocation(tree, none);
        }

        @Override
        public Void visitNewClass(com.sun.source.tree.NewClassTree tree, Void none) {
            C.so("nothing is made in a call, but in line " + line(tree), inside == null);
            return super.visitNewClass(tree, none);
        }

        @Override
        public Void visitNewArray(com.sun.source.tree.NewArrayTree tree, Void none) {
            C.so("no row is made in a call, but in line " + line(tree), inside == null);
            return super.visitNewArray(tree, none);
        }
    }
}
