import com.sun.source.tree.AssertTree;
import com.sun.source.tree.BinaryTree;
import com.sun.source.tree.CatchTree;
import com.sun.source.tree.ClassTree;
import com.sun.source.tree.CompilationUnitTree;
import com.sun.source.tree.ExpressionTree;
import com.sun.source.tree.InstanceOfTree;
import com.sun.source.tree.LambdaExpressionTree;
import com.sun.source.tree.LiteralTree;
import com.sun.source.tree.MemberReferenceTree;
import com.sun.source.tree.MethodInvocationTree;
import com.sun.source.tree.MethodTree;
import com.sun.source.tree.NewArrayTree;
import com.sun.source.tree.NewClassTree;
import com.sun.source.tree.SynchronizedTree;
import com.sun.source.tree.ThrowTree;
import com.sun.source.tree.Tree;
import com.sun.source.tree.TryTree;
import com.sun.source.tree.TypeCastTree;
import com.sun.source.tree.VariableTree;
import com.sun.source.util.JavacTask;
import com.sun.source.util.TreePathScanner;
import com.sun.source.util.Trees;
import java.nio.file.Path;
import java.util.ArrayList;
import java.util.HashSet;
import java.util.List;
import java.util.Map;
import java.util.Set;
import java.util.TreeMap;
import java.util.TreeSet;
import javax.lang.model.element.Element;
import javax.lang.model.element.ExecutableElement;
import javax.lang.model.element.Modifier;
import javax.lang.model.element.VariableElement;
import javax.lang.model.type.TypeMirror;
import javax.tools.JavaCompiler;
import javax.tools.StandardJavaFileManager;
import javax.tools.ToolProvider;

/** The class keeps the rules of LANGUAGE.md, as far as its trees can tell; the number is the rule's. */
final class LanguageTest {
    private static final Check CHECK = new Check();
    private static final Set<String> LIBRARY = Set.of(
            "String.charAt", "String.indexOf", "Integer.bitCount", "Math.max", "Math.min", "Math.abs",
            "System.arraycopy", "Arrays.fill", "Object.<init>");
    private static final Set<String> THROWN = Set.of("NoSuchElementException");
    private static final Set<String> IMPORTS = Set.of("java.util.Arrays", "java.util.NoSuchElementException");
    private static final Set<String> NUMBERS = Set.of(
            "int", "long", "short", "byte", "char", "boolean", "int[]", "int[][]", "byte[]", "boolean[]");
    private static final Set<String> CONSTANTS = Set.of(
            "int", "long", "boolean", "char", "java.lang.String", "int[]", "long[]", "char[]", "byte[]");

    /** Divisors that are no constants; each is looked at against 0 (or for its bounds) ahead of it. */
    private static final Set<String> GUARDED = Set.of(
            "CannonPost.drawn / of", "CannonPost.stock / p", "Flight.reach / weight", "Guesses.partsFor / all",
            "Lawbook.joined / other");

    private LanguageTest() {
    }

    public static void main(String[] args) throws Exception {
        JavaCompiler compiler = ToolProvider.getSystemJavaCompiler();
        try (StandardJavaFileManager files = compiler.getStandardFileManager(null, null, null)) {
            JavacTask task = (JavacTask) compiler.getTask(null, files, null, List.of("-proc:none"), null,
                    files.getJavaFileObjects(Path.of("src/main/java/CannonPost.java")));
            Reader reader = new Reader(Trees.instance(task));
            for (CompilationUnitTree unit : task.parse()) {
                task.analyze();
                CHECK.holds("rule 0: no package line", unit.getPackageName() == null);
                unit.getImports().forEach(line -> CHECK.holds("rule 4: " + line,
                        IMPORTS.contains(line.getQualifiedIdentifier().toString())));
                reader.scan(unit, null);
            }
            reader.lookAtAll();
        }
        CHECK.close();
    }

    /** Walks the class once; what can be told of one place is looked at there. */
    private static final class Reader extends TreePathScanner<Void, Void> {
        private final Trees trees;
        private final Map<String, Set<String>> calls = new TreeMap<>();
        private CompilationUnitTree unit;
        private String method = "";
        private boolean making = true;
        private int classes;

        Reader(Trees trees) {
            this.trees = trees;
        }

        @Override
        public Void visitCompilationUnit(CompilationUnitTree tree, Void nothing) {
            unit = tree;
            return super.visitCompilationUnit(tree, nothing);
        }

        @Override
        public Void visitClass(ClassTree tree, Void nothing) {
            classes++;
            boolean outer = tree.getSimpleName().contentEquals("CannonPost");
            Set<Modifier> flags = tree.getModifiers().getFlags();
            CHECK.holds("rule 1: " + tree.getSimpleName(), outer
                    ? flags.equals(Set.of(Modifier.PUBLIC, Modifier.FINAL))
                    : flags.contains(Modifier.STATIC) && !flags.contains(Modifier.PUBLIC));
            CHECK.holds("rule 2: no class within a method", method.isEmpty());
            int fields = 0;
            for (Tree member : tree.getMembers()) {
                CHECK.holds("rule 5: no block", member.getKind() != Tree.Kind.BLOCK);
                fields += member instanceof VariableTree field && !isStatic(field) ? 1 : 0;
            }
            CHECK.holds("rule 11: some twenty fields of " + tree.getSimpleName(), fields <= 20);
            return super.visitClass(tree, nothing);
        }

        @Override
        public Void visitVariable(VariableTree tree, Void nothing) {
            String type = typeOf(tree.getType()).toString();
            CHECK.holds("rule 3: " + type, NUMBERS.contains(type) || CONSTANTS.contains(type) || isOwn(type));
            if (isStatic(tree)) {
                CHECK.holds("rule 5: " + tree.getName(), tree.getModifiers().getFlags().contains(Modifier.FINAL)
                        && CONSTANTS.contains(type) && tree.getInitializer() != null);
            }
            return super.visitVariable(tree, nothing);
        }

        @Override
        public Void visitMethod(MethodTree tree, Void nothing) {
            Element element = trees.getElement(getCurrentPath());
            method = nameOf((ExecutableElement) element);
            making = tree.getReturnType() == null;
            calls.computeIfAbsent(method, k -> new TreeSet<>());
            CHECK.holds("rule 11: seven parameters of " + method, tree.getParameters().size() <= 7);
            CHECK.holds("rule 11: some sixty lines of " + method, linesOf(tree) <= 60);
            super.visitMethod(tree, nothing);
            method = "";
            making = true;
            return null;
        }

        @Override
        public Void visitMethodInvocation(MethodInvocationTree tree, Void nothing) {
            ExecutableElement called = (ExecutableElement) trees.getElement(getCurrentPath());
            String name = nameOf(called);
            if (isOwn(called.getEnclosingElement().toString())) {
                calls.computeIfAbsent(method, k -> new TreeSet<>()).add(name);
            } else {
                CHECK.holds("rule 4: " + name, LIBRARY.contains(name));
            }
            return super.visitMethodInvocation(tree, nothing);
        }

        @Override
        public Void visitNewClass(NewClassTree tree, Void nothing) {
            boolean thrown = getCurrentPath().getParentPath().getLeaf() instanceof ThrowTree;
            CHECK.holds("rule 12: " + method + " makes none but in a constructor", thrown || making);
            CHECK.holds("rule 2: no anonymous one", tree.getClassBody() == null);
            return super.visitNewClass(tree, nothing);
        }

        @Override
        public Void visitNewArray(NewArrayTree tree, Void nothing) {
            CHECK.holds("rule 12: " + method + " makes no row but in a constructor", making);
            return super.visitNewArray(tree, nothing);
        }

        @Override
        public Void visitThrow(ThrowTree tree, Void nothing) {
            boolean plain = tree.getExpression() instanceof NewClassTree made
                    && THROWN.contains(made.getIdentifier().toString()) && written(made.getArguments());
            CHECK.holds("rule 6: " + tree, plain && method.equals("CannonPost.carrier"));
            return super.visitThrow(tree, nothing);
        }

        private boolean written(List<? extends ExpressionTree> arguments) {
            return arguments.isEmpty() || arguments.size() == 1 && arguments.get(0) instanceof LiteralTree;
        }

        @Override
        public Void visitBinary(BinaryTree tree, Void nothing) {
            String left = typeOf(tree.getLeftOperand()).toString();
            String right = typeOf(tree.getRightOperand()).toString();
            CHECK.holds("rule 10: numbers alone in " + tree, NUMBERS.contains(left) && NUMBERS.contains(right));
            if (tree.getKind() == Tree.Kind.DIVIDE || tree.getKind() == Tree.Kind.REMAINDER) {
                String divisor = method + " / " + tree.getRightOperand();
                CHECK.holds("rule 7: " + divisor, isConstant(tree.getRightOperand()) || GUARDED.contains(divisor));
            }
            return super.visitBinary(tree, nothing);
        }

        @Override
        public Void visitTypeCast(TypeCastTree tree, Void nothing) {
            CHECK.holds("rule 6: a cast of numbers: " + tree, NUMBERS.contains(typeOf(tree.getType()).toString()));
            return super.visitTypeCast(tree, nothing);
        }

        @Override
        public Void visitLambdaExpression(LambdaExpressionTree tree, Void nothing) {
            return refused("rule 2: no lambda", tree);
        }

        @Override
        public Void visitMemberReference(MemberReferenceTree tree, Void nothing) {
            return refused("rule 2: no method reference", tree);
        }

        @Override
        public Void visitTry(TryTree tree, Void nothing) {
            return refused("rule 6: nothing to catch", tree);
        }

        @Override
        public Void visitCatch(CatchTree tree, Void nothing) {
            return refused("rule 6: nothing to catch", tree);
        }

        @Override
        public Void visitSynchronized(SynchronizedTree tree, Void nothing) {
            return refused("rule 6: no synchronized", tree);
        }

        @Override
        public Void visitAssert(AssertTree tree, Void nothing) {
            return refused("rule 6: no assert", tree);
        }

        @Override
        public Void visitInstanceOf(InstanceOfTree tree, Void nothing) {
            return refused("rule 6: no kinds to tell apart", tree);
        }

        private Void refused(String rule, Tree tree) {
            CHECK.holds(rule + ": " + tree, false);
            return null;
        }

        void lookAtAll() {
            CHECK.holds("rule 11: some twelve classes, not " + classes, classes <= 12);
            for (String name : calls.keySet()) {
                int deep = depthFrom(name, new ArrayList<>());
                CHECK.holds("rule 11: " + name + " goes " + deep + " deep", deep <= 8);
            }
        }

        /** How many calls stand open at most; those of a recursion are counted once. */
        private int depthFrom(String name, List<String> open) {
            if (open.contains(name)) {
                return 0;
            }
            open.add(name);
            int most = 0;
            for (String called : calls.getOrDefault(name, Set.of())) {
                boolean recursion = reaches(called, name, new HashSet<>());
                most = Math.max(most, depthFrom(called, open) - (recursion ? 1 : 0));
            }
            open.remove(name);
            return most + 1;
        }

        private boolean reaches(String from, String to, Set<String> passed) {
            if (from.equals(to)) {
                return true;
            }
            boolean found = false;
            for (String called : passed.add(from) ? calls.getOrDefault(from, Set.of()) : Set.<String>of()) {
                found = found || reaches(called, to, passed);
            }
            return found;
        }

        private long linesOf(Tree tree) {
            long start = trees.getSourcePositions().getStartPosition(unit, tree);
            long end = trees.getSourcePositions().getEndPosition(unit, tree);
            return unit.getLineMap().getLineNumber(end) - unit.getLineMap().getLineNumber(start) + 1;
        }

        private TypeMirror typeOf(Tree tree) {
            return trees.getTypeMirror(trees.getPath(unit, tree));
        }

        private boolean isConstant(ExpressionTree tree) {
            return tree instanceof LiteralTree
                    || trees.getElement(trees.getPath(unit, tree)) instanceof VariableElement named
                    && named.getConstantValue() != null;
        }

        private static boolean isStatic(VariableTree tree) {
            return tree.getModifiers().getFlags().contains(Modifier.STATIC);
        }

        private static boolean isOwn(String type) {
            return type.equals("CannonPost") || type.startsWith("CannonPost.");
        }

        private static String nameOf(ExecutableElement element) {
            return element.getEnclosingElement().getSimpleName() + "." + element.getSimpleName();
        }
    }
}
