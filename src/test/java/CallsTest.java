import com.sun.source.tree.ClassTree;
import com.sun.source.tree.CompilationUnitTree;
import com.sun.source.tree.ExpressionTree;
import com.sun.source.tree.LiteralTree;
import com.sun.source.tree.MethodInvocationTree;
import com.sun.source.tree.MethodTree;
import com.sun.source.tree.NewClassTree;
import com.sun.source.tree.ThrowTree;
import com.sun.source.tree.VariableTree;
import com.sun.source.util.JavacTask;
import com.sun.source.util.TreePathScanner;
import com.sun.source.util.Trees;
import java.io.IOException;
import java.nio.file.Path;
import java.util.LinkedHashMap;
import java.util.LinkedHashSet;
import java.util.List;
import java.util.Map;
import java.util.Set;
import javax.lang.model.element.Element;
import javax.lang.model.element.ElementKind;
import javax.lang.model.element.ExecutableElement;
import javax.lang.model.element.Modifier;
import javax.tools.JavaCompiler;
import javax.tools.StandardJavaFileManager;
import javax.tools.ToolProvider;

/** What can be seen of ../shared/LANGUAGE.md in the tree that the compiler makes of the class: rules 1, 5, 6, 8, 11. */
public final class CallsTest {
    private static final Path SOURCE = Path.of("src/main/java/NotationPress.java");
    private static final Set<String> EXCEPTIONS = Set.of("IllegalStateException", "IllegalArgumentException",
        "IndexOutOfBoundsException");
    private static final int DEEPEST = 8;

    private static final Map<Element, Set<Element>> CALLS = new LinkedHashMap<>();
    private static Trees trees;
    private static int classes = 0;

    public static void main(String[] args) throws IOException {
        JavaCompiler compiler = ToolProvider.getSystemJavaCompiler();
        try (StandardJavaFileManager files = compiler.getStandardFileManager(null, null, null)) {
            JavacTask task = (JavacTask) compiler.getTask(null, files, null, List.of("-proc:none"), null,
                files.getJavaFileObjects(SOURCE));
            trees = Trees.instance(task);
            Iterable<? extends CompilationUnitTree> units = task.parse();
            task.analyze();
            for (CompilationUnitTree unit : units) new Scanner().scan(unit, null);
        }
        Due.answer("some twelve classes", classes <= 12 ? 1 : 0, 1);
        namesOfTheirOwn();
        for (Element method : CALLS.keySet()) depth(method, new LinkedHashSet<>());
        Due.end();
    }

    private static final class Scanner extends TreePathScanner<Void, Void> {
        private Element method = null;

        @Override
        public Void visitClass(ClassTree tree, Void none) {
            classes++;
            return super.visitClass(tree, none);
        }

        @Override
        public Void visitMethod(MethodTree tree, Void none) {
            Element outer = method;
            method = trees.getElement(getCurrentPath());
            CALLS.putIfAbsent(method, new LinkedHashSet<>());
            Due.answer(method + " has at most seven parameters", tree.getParameters().size() <= 7 ? 1 : 0, 1);
            super.visitMethod(tree, none);
            method = outer;
            return null;
        }

        @Override
        public Void visitVariable(VariableTree tree, Void none) {
            Element variable = trees.getElement(getCurrentPath());
            Set<Modifier> modifiers = variable.getModifiers();
            boolean loose = modifiers.contains(Modifier.STATIC) && !modifiers.contains(Modifier.FINAL);
            Due.answer(variable + " is final, if it is static", loose ? 1 : 0, 0);
            return super.visitVariable(tree, none);
        }

        @Override
        public Void visitMethodInvocation(MethodInvocationTree tree, Void none) {
            called(trees.getElement(getCurrentPath()));
            return super.visitMethodInvocation(tree, none);
        }

        @Override
        public Void visitNewClass(NewClassTree tree, Void none) {
            called(trees.getElement(getCurrentPath()));
            return super.visitNewClass(tree, none);
        }

        private void called(Element callee) {
            boolean own = trees.getPath(callee) != null;
            if (method != null && own) CALLS.get(method).add(callee);
        }

        @Override
        public Void visitThrow(ThrowTree tree, Void none) {
            Due.answer("throw in " + method, method.getModifiers().contains(Modifier.PUBLIC) ? 1 : 0, 1);
            Due.answer("no throw in a constructor", method.getKind() == ElementKind.CONSTRUCTOR ? 1 : 0, 0);
            boolean fine = tree.getExpression() instanceof NewClassTree made
                && EXCEPTIONS.contains(made.getIdentifier().toString()) && isWritten(made.getArguments());
            Due.answer(tree + " throws a new one with a written text", fine ? 1 : 0, 1);
            return super.visitThrow(tree, none);
        }

        private boolean isWritten(List<? extends ExpressionTree> arguments) {
            return arguments.isEmpty() || arguments.size() == 1 && arguments.get(0) instanceof LiteralTree;
        }
    }

    /** No method of a class inside bears the name of a public one, be it private or not. */
    private static void namesOfTheirOwn() {
        Set<String> face = new LinkedHashSet<>();
        for (Element method : CALLS.keySet()) {
            boolean open = method.getModifiers().contains(Modifier.PUBLIC) && method.getKind() == ElementKind.METHOD;
            if (open) face.add(method.getSimpleName().toString());
        }
        Due.answer("public methods", face.size(), 34);
        for (Element method : CALLS.keySet()) {
            if (method.getModifiers().contains(Modifier.PUBLIC)) continue;
            String name = method.getSimpleName().toString();
            Due.answer(method.getEnclosingElement() + "." + name + " has its own name", face.contains(name) ? 1 : 0, 0);
        }
    }

    /** How many methods deep the calls from a method go, that one among them; none may come to itself again. */
    private static int depth(Element method, Set<Element> open) {
        Due.answer(method + " does not come to itself", open.contains(method) ? 1 : 0, 0);
        if (open.contains(method)) return 0;
        open.add(method);
        int deepest = 0;
        for (Element callee : CALLS.getOrDefault(method, Set.of())) deepest = Math.max(deepest, depth(callee, open));
        open.remove(method);
        boolean isMethod = method instanceof ExecutableElement;
        Due.answer(open + " " + method + " goes " + (deepest + 1) + " deep", isMethod && deepest < DEEPEST ? 1 : 0, 1);
        return deepest + 1;
    }
}
