import com.sun.source.tree.BinaryTree;
import com.sun.source.tree.ClassTree;
import com.sun.source.tree.CompilationUnitTree;
import com.sun.source.tree.ForLoopTree;
import com.sun.source.tree.MethodInvocationTree;
import com.sun.source.tree.MethodTree;
import com.sun.source.tree.NewArrayTree;
import com.sun.source.tree.NewClassTree;
import com.sun.source.tree.Tree;
import com.sun.source.tree.VariableTree;
import com.sun.source.util.JavacTask;
import com.sun.source.util.TreePath;
import com.sun.source.util.TreePathScanner;
import com.sun.source.util.Trees;
import java.nio.file.Files;
import java.nio.file.Path;
import java.util.ArrayDeque;
import java.util.Deque;
import java.util.EnumSet;
import java.util.HashMap;
import java.util.HashSet;
import java.util.List;
import java.util.Map;
import java.util.Set;
import javax.lang.model.element.Element;
import javax.lang.model.element.ElementKind;
import javax.lang.model.element.ExecutableElement;
import javax.lang.model.element.Modifier;
import javax.lang.model.type.TypeMirror;
import javax.tools.JavaCompiler;
import javax.tools.StandardJavaFileManager;
import javax.tools.ToolProvider;

/**
 * What can be seen of LANGUAGE.md's rules in the source, as the compiler reads it. At times it asks for more than they
 * do (no while, no casts, no texts), since the class needs none of these: a need may loosen it, as far as they go.
 */
final class RulesTest {
    private static final Path SOURCE = Path.of("src/main/java/SolidsRolled.java");
    private static final int MOST_LINES = 60;
    private static final int MOST_DEEP = 8;
    private static final Set<Tree.Kind> BANNED = EnumSet.of(Tree.Kind.THROW, Tree.Kind.TRY, Tree.Kind.CATCH,
        Tree.Kind.SYNCHRONIZED, Tree.Kind.ASSERT, Tree.Kind.LAMBDA_EXPRESSION, Tree.Kind.MEMBER_REFERENCE,
        Tree.Kind.INSTANCE_OF, Tree.Kind.TYPE_CAST, Tree.Kind.SWITCH_EXPRESSION, Tree.Kind.ANNOTATION,
        Tree.Kind.PARAMETERIZED_TYPE, Tree.Kind.PACKAGE, Tree.Kind.WHILE_LOOP, Tree.Kind.DO_WHILE_LOOP,
        Tree.Kind.STRING_LITERAL);
    private static final Set<String> LIBRARY = Set.of("java.util.Arrays.fill(int[],int)", "java.lang.Math.min(int,int)",
        "java.lang.System.arraycopy(java.lang.Object,int,java.lang.Object,int,int)", "java.lang.Long.bitCount(long)");
    private static final Set<String> PLAIN = Set.of("int", "long", "boolean", "int[]", "void");

    private final Due due = new Due("RulesTest");
    private final Map<Element, Set<Element>> calls = new HashMap<>();
    private Trees trees;
    private CompilationUnitTree unit;

    public static void main(String[] args) throws Exception {
        RulesTest test = new RulesTest();
        test.signs();
        test.read();
        test.depths();
        test.due.end();
    }

    private void signs() throws Exception {
        String text = Files.readString(SOURCE);
        due.isTrue("signs 1 to 127", text.chars().allMatch(c -> c > 0 && c < 128));
    }

    private void read() throws Exception {
        JavaCompiler compiler = ToolProvider.getSystemJavaCompiler();
        try (StandardJavaFileManager files = compiler.getStandardFileManager(null, null, null)) {
            JavacTask task = (JavacTask) compiler.getTask(null, files, null, List.of("--release", "17"), null,
                files.getJavaFileObjects(SOURCE));
            unit = task.parse().iterator().next();
            task.analyze();
            trees = Trees.instance(task);
            new Reader().scan(unit, null);
        }
        due.is("classes in the file", unit.getTypeDecls().size(), 1);
        due.is("imports", unit.getImports().size(), 1);
    }

    private String at(Tree tree) {
        long line = unit.getLineMap().getLineNumber(trees.getSourcePositions().getStartPosition(unit, tree));
        return " in line " + line;
    }

    private long lines(Tree tree) {
        long first = trees.getSourcePositions().getStartPosition(unit, tree);
        long last = trees.getSourcePositions().getEndPosition(unit, tree);
        return unit.getLineMap().getLineNumber(last) - unit.getLineMap().getLineNumber(first) + 1;
    }

    /** No method comes back to itself by calls, and none stands on more than some others. */
    private void depths() {
        due.isTrue("some calls", calls.size() > 50);
        for (Element method : calls.keySet()) {
            int deep = depth(method, new ArrayDeque<>());
            due.isTrue("calls from " + method + ", " + deep + " deep", deep <= MOST_DEEP);
        }
    }

    private int depth(Element method, Deque<Element> open) {
        if (open.contains(method)) {
            return MOST_DEEP + 1;
        }
        open.push(method);
        int most = 0;
        for (Element each : calls.getOrDefault(method, Set.of())) {
            most = Math.max(most, depth(each, open));
        }
        open.pop();
        return most + 1;
    }

    private final class Reader extends TreePathScanner<Void, Void> {
        private Element method;

        @Override
        public Void scan(Tree tree, Void none) {
            if (tree != null) {
                due.isTrue("no " + tree.getKind() + at(tree), !BANNED.contains(tree.getKind()));
            }
            return super.scan(tree, none);
        }

        private Element element() {
            return trees.getElement(getCurrentPath());
        }

        @Override
        public Void visitClass(ClassTree tree, Void none) {
            Tree.Kind around = getCurrentPath().getParentPath().getLeaf().getKind();
            due.isTrue("a class, no local one" + at(tree), tree.getKind() == Tree.Kind.CLASS
                && (around == Tree.Kind.CLASS || around == Tree.Kind.COMPILATION_UNIT));
            due.isTrue("final, of no other class" + at(tree), element().getModifiers().contains(Modifier.FINAL)
                && tree.getExtendsClause() == null && tree.getImplementsClause().isEmpty());
            for (Tree member : tree.getMembers()) {
                due.isTrue("no initialiser block" + at(member), member.getKind() != Tree.Kind.BLOCK);
            }
            return super.visitClass(tree, none);
        }

        @Override
        public Void visitMethod(MethodTree tree, Void none) {
            method = element();
            calls.put(method, new HashSet<>());
            due.isTrue("a short method" + at(tree), lines(tree) <= MOST_LINES);
            due.isTrue("at most seven parameters" + at(tree), tree.getParameters().size() <= 7);
            due.isTrue("answers a plain number" + at(tree), tree.getReturnType() == null
                || isAllowed(trees.getTypeMirror(new TreePath(getCurrentPath(), tree.getReturnType()))));
            super.visitMethod(tree, none);
            method = null;
            return null;
        }

        @Override
        public Void visitVariable(VariableTree tree, Void none) {
            Element variable = element();
            due.isTrue("type of " + tree.getName() + at(tree), isAllowed(variable.asType()));
            if (variable.getModifiers().contains(Modifier.STATIC)) {
                boolean written = tree.getInitializer() instanceof NewArrayTree row && row.getInitializers() != null;
                due.isTrue("constant " + tree.getName() + at(tree), variable.getModifiers().contains(Modifier.FINAL)
                    && (variable.asType().getKind().isPrimitive() || written));
            }
            return super.visitVariable(tree, none);
        }

        /** Numbers, rows of numbers, own classes and rows of these. */
        private boolean isAllowed(TypeMirror type) {
            String name = type.toString();
            String own = "SolidsRolled\\.\\w+(\\[\\])?";
            return PLAIN.contains(name) || name.matches(own);
        }

        @Override
        public Void visitMethodInvocation(MethodInvocationTree tree, Void none) {
            call((ExecutableElement) element(), tree);
            return super.visitMethodInvocation(tree, none);
        }

        @Override
        public Void visitNewClass(NewClassTree tree, Void none) {
            due.isTrue("made in a constructor alone" + at(tree), method.getKind() == ElementKind.CONSTRUCTOR);
            call((ExecutableElement) element(), tree);
            return super.visitNewClass(tree, none);
        }

        @Override
        public Void visitNewArray(NewArrayTree tree, Void none) {
            due.isTrue("a row made in a constructor, or a constant" + at(tree),
                method == null || method.getKind() == ElementKind.CONSTRUCTOR);
            return super.visitNewArray(tree, none);
        }

        private void call(ExecutableElement called, Tree tree) {
            String owner = called.getEnclosingElement().toString();
            if (owner.startsWith("SolidsRolled")) {
                calls.get(method).add(called);
            } else if (!called.getSimpleName().contentEquals("<init>")) {
                due.isTrue("library: " + owner + "." + called + at(tree), LIBRARY.contains(owner + "." + called));
            }
        }

        @Override
        public Void visitForLoop(ForLoopTree tree, Void none) {
            due.isTrue("a bound" + at(tree), tree.getCondition() != null && tree.getUpdate().size() == 1);
            return super.visitForLoop(tree, none);
        }

        /** No text is joined by +, and a divisor is a constant or looked at just before. */
        @Override
        public Void visitBinary(BinaryTree tree, Void none) {
            due.isTrue("numbers alone" + at(tree), trees.getTypeMirror(getCurrentPath()).getKind().isPrimitive());
            if (tree.getKind() == Tree.Kind.DIVIDE || tree.getKind() == Tree.Kind.REMAINDER) {
                due.isTrue("divisor" + at(tree), isConstant(tree) || isGuarded(tree));
            }
            return super.visitBinary(tree, none);
        }

        private boolean isConstant(BinaryTree tree) {
            return tree.getRightOperand().getKind() == Tree.Kind.INT_LITERAL
                || tree.getRightOperand().toString().matches("[A-Z_]+");
        }

        private boolean isGuarded(BinaryTree tree) {
            Tree around = getCurrentPath().getParentPath().getLeaf();
            return around.toString().startsWith(tree.getRightOperand() + " > 0 ? ");
        }
    }
}
