import com.sun.source.tree.AssertTree;
import com.sun.source.tree.BinaryTree;
import com.sun.source.tree.BlockTree;
import com.sun.source.tree.ClassTree;
import com.sun.source.tree.CompilationUnitTree;
import com.sun.source.tree.InstanceOfTree;
import com.sun.source.tree.LambdaExpressionTree;
import com.sun.source.tree.MemberReferenceTree;
import com.sun.source.tree.MethodInvocationTree;
import com.sun.source.tree.MethodTree;
import com.sun.source.tree.NewArrayTree;
import com.sun.source.tree.NewClassTree;
import com.sun.source.tree.SynchronizedTree;
import com.sun.source.tree.ThrowTree;
import com.sun.source.tree.Tree;
import com.sun.source.tree.TryTree;
import com.sun.source.tree.VariableTree;
import com.sun.source.tree.WhileLoopTree;
import com.sun.source.util.JavacTask;
import com.sun.source.util.TreePathScanner;
import com.sun.source.util.Trees;
import java.io.IOException;
import java.nio.file.Path;
import java.util.HashMap;
import java.util.LinkedHashSet;
import java.util.List;
import java.util.Map;
import java.util.Set;
import java.util.TreeSet;
import javax.lang.model.element.Element;
import javax.lang.model.element.ElementKind;
import javax.lang.model.element.Modifier;
import javax.lang.model.element.TypeElement;
import javax.tools.JavaCompiler;
import javax.tools.StandardJavaFileManager;
import javax.tools.ToolProvider;

/** The rules of LANGUAGE.md that can be seen in the source, by their numbers. */
public final class LanguageTest {
    private static final String SOURCE = "src/main/java/SheetObjects.java";
    // Of all that rule 4 allows, what the class uses.
    private static final Set<String> LIBRARY = Set.of("java.lang.Math.min", "java.lang.Math.max",
            "java.lang.Math.abs", "java.lang.System.arraycopy", "java.lang.Object.<init>");
    private static final Set<String> EXCEPTIONS = Set.of("java.lang.IllegalStateException",
            "java.lang.IllegalArgumentException", "java.lang.IndexOutOfBoundsException",
            "java.lang.ArithmeticException", "java.lang.UnsupportedOperationException",
            "java.util.NoSuchElementException", "java.lang.RuntimeException");
    private static final Set<String> TYPES = Set.of("int", "long", "short", "byte", "char", "boolean",
            "int[]", "long[]", "byte[]", "java.lang.String");
    private static final Set<String> CONSTANTS = Set.of("int", "long", "boolean", "char",
            "java.lang.String", "int[]", "long[]", "char[]", "byte[]");
    private static final int DEEPEST = 8;

    private final Bench bench = new Bench();
    private final CompilationUnitTree unit;
    private final Trees trees;

    private LanguageTest(CompilationUnitTree unit, Trees trees) {
        this.unit = unit;
        this.trees = trees;
    }

    public static void main(String[] args) throws IOException {
        JavaCompiler compiler = ToolProvider.getSystemJavaCompiler();
        try (StandardJavaFileManager files = compiler.getStandardFileManager(null, null, null)) {
            JavacTask task = (JavacTask) compiler.getTask(null, files, null, null, null,
                    files.getJavaFileObjects(Path.of(SOURCE)));
            CompilationUnitTree unit = task.parse().iterator().next();
            task.analyze();
            LanguageTest test = new LanguageTest(unit, Trees.instance(task));
            test.bench.sentence("the rules, as the source is gone through", test::look);
            test.bench.end();
        }
    }

    private void look() {
        bench.due("no package line", unit.getPackageName() == null, true);
        bench.due("rule 4: imports", unit.getImports().size(), 0);
        bench.due("rule 1: one class", unit.getTypeDecls().size(), 1);
        Look look = new Look();
        look.scan(unit, null);
        bench.due("rule 11: at most twelve classes", look.classes <= 12, true);
        Set<String> shared = new TreeSet<>(look.publicNames);
        shared.retainAll(look.privateNames);
        bench.due("rule 1: private methods with the name of a public one", shared.toString(), "[]");
        for (Element one : look.calls.keySet()) {
            int depth = depth(look.calls, one, new LinkedHashSet<>());
            bench.due("rules 8, 11: " + one + " goes too deep: " + depth, depth <= DEEPEST, true);
        }
    }

    /** How many calls stand open at once, the library's among them; too many if one calls itself. */
    private static int depth(Map<Element, Set<Element>> calls, Element from, Set<Element> open) {
        if (!open.add(from)) {
            return DEEPEST + 1;
        }
        int deepest = 0;
        for (Element next : calls.getOrDefault(from, Set.of())) {
            deepest = Math.max(deepest, depth(calls, next, open));
        }
        open.remove(from);
        return deepest + 1;
    }

    private final class Look extends TreePathScanner<Void, Void> {
        private int classes;
        private final Set<String> publicNames = new TreeSet<>();
        private final Set<String> privateNames = new TreeSet<>();
        private final Map<Element, Set<Element>> calls = new HashMap<>();
        private Element method;

        private void never(String rule, Tree tree) {
            bench.due(rule + ": " + tree, true, false);
        }

        private Element element() {
            return trees.getElement(getCurrentPath());
        }

        private boolean isOwn(Element element) {
            Element at = element;
            while (at.getEnclosingElement().getKind() != ElementKind.PACKAGE) {
                at = at.getEnclosingElement();
            }
            return at.getSimpleName().contentEquals("SheetObjects");
        }

        private long lines(Tree tree) {
            long from = trees.getSourcePositions().getStartPosition(unit, tree);
            long to = trees.getSourcePositions().getEndPosition(unit, tree);
            return unit.getLineMap().getLineNumber(to) - unit.getLineMap().getLineNumber(from) + 1;
        }

        @Override
        public Void visitClass(ClassTree tree, Void none) {
            classes++;
            TypeElement type = (TypeElement) element();
            bench.due("rule 2: a class beside the members " + type,
                    type.getNestingKind().isNested() && type.getEnclosingElement().getKind() != ElementKind.CLASS, false);
            bench.due("rule 2: " + type + " is static or the face",
                    type.getModifiers().contains(Modifier.STATIC) || classes == 1, true);
            int fields = 0;
            for (Tree member : tree.getMembers()) {
                boolean constant = member instanceof VariableTree
                        && ((VariableTree) member).getModifiers().getFlags().contains(Modifier.STATIC);
                fields += member instanceof VariableTree && !constant ? 1 : 0;
                if (member instanceof BlockTree) {
                    never("rule 5: an initialiser", member);
                }
            }
            bench.due("rule 11: at most twenty fields in " + type, fields <= 20, true);
            return super.visitClass(tree, none);
        }

        @Override
        public Void visitVariable(VariableTree tree, Void none) {
            Element element = element();
            String type = element.asType().toString();
            boolean own = type.startsWith("SheetObjects");
            bench.due("rule 3: the type of " + tree, own || TYPES.contains(type), true);
            if (element.getModifiers().contains(Modifier.STATIC)) {
                bench.due("rule 5: " + tree, element.getModifiers().contains(Modifier.FINAL)
                        && CONSTANTS.contains(type), true);
            }
            return super.visitVariable(tree, none);
        }

        @Override
        public Void visitMethod(MethodTree tree, Void none) {
            method = element();
            calls.putIfAbsent(method, new LinkedHashSet<>());
            boolean open = method.getModifiers().contains(Modifier.PUBLIC);
            (open ? publicNames : privateNames).add(tree.getName().toString());
            if (method.getKind() == ElementKind.CONSTRUCTOR) {
                privateNames.remove(tree.getName().toString());
            }
            bench.due("rule 11: parameters of " + method, tree.getParameters().size() <= 7, true);
            bench.due("rule 11: lines of " + method, lines(tree) <= 60, true);
            return super.visitMethod(tree, none);
        }

        @Override
        public Void visitMethodInvocation(MethodInvocationTree tree, Void none) {
            Element called = element();
            String name = called.getEnclosingElement() + "." + called.getSimpleName();
            bench.due("rule 4: " + name, isOwn(called) || LIBRARY.contains(name), true);
            calls.get(method).add(called);
            return super.visitMethodInvocation(tree, none);
        }

        @Override
        public Void visitNewClass(NewClassTree tree, Void none) {
            Element made = element().getEnclosingElement();
            boolean known = isOwn(made) || EXCEPTIONS.contains(made.toString());
            bench.due("rules 4, 6: " + tree, known && tree.getClassBody() == null, true);
            bench.due("rule 12: all is made by constructors, but for exceptions: " + tree,
                    method.getKind() == ElementKind.CONSTRUCTOR || !isOwn(made), true);
            calls.get(method).add(element());
            return super.visitNewClass(tree, none);
        }

        @Override
        public Void visitNewArray(NewArrayTree tree, Void none) {
            boolean constant = tree.getInitializers() != null;
            bench.due("rule 12: all is made by constructors: " + tree,
                    constant || method.getKind() == ElementKind.CONSTRUCTOR, true);
            return super.visitNewArray(tree, none);
        }

        @Override
        public Void visitThrow(ThrowTree tree, Void none) {
            boolean written = tree.getExpression() instanceof NewClassTree
                    && ((NewClassTree) tree.getExpression()).getArguments().stream()
                    .allMatch(argument -> argument.getKind() == Tree.Kind.STRING_LITERAL);
            bench.due("rule 6: " + tree, written && method.getKind() != ElementKind.CONSTRUCTOR, true);
            return super.visitThrow(tree, none);
        }

        @Override
        public Void visitBinary(BinaryTree tree, Void none) {
            String type = trees.getTypeMirror(getCurrentPath()).toString();
            bench.due("rule 10: texts joined by +: " + tree, type.equals("java.lang.String"), false);
            boolean divides = List.of(Tree.Kind.DIVIDE, Tree.Kind.REMAINDER).contains(tree.getKind());
            if (divides) {
                bench.due("rule 7: a divisor that is no constant, nor a loop's: " + tree,
                        tree.getRightOperand().toString().matches("\\d+|BILLION|unit"), true);
            }
            return super.visitBinary(tree, none);
        }

        @Override
        public Void visitTry(TryTree tree, Void none) {
            never("rule 6: the class needs no try", tree);
            return null;
        }

        @Override
        public Void visitWhileLoop(WhileLoopTree tree, Void none) {
            never("rule 9: loops show their bound in a for", tree);
            return null;
        }

        @Override
        public Void visitLambdaExpression(LambdaExpressionTree tree, Void none) {
            never("rule 2", tree);
            return null;
        }

        @Override
        public Void visitMemberReference(MemberReferenceTree tree, Void none) {
            never("rule 2", tree);
            return null;
        }

        @Override
        public Void visitSynchronized(SynchronizedTree tree, Void none) {
            never("rule 6", tree);
            return null;
        }

        @Override
        public Void visitAssert(AssertTree tree, Void none) {
            never("rule 6", tree);
            return null;
        }

        @Override
        public Void visitInstanceOf(InstanceOfTree tree, Void none) {
            never("rule 6: the class needs no instanceof", tree);
            return null;
        }
    }
}
