import com.sun.source.tree.AssertTree;
import com.sun.source.tree.BinaryTree;
import com.sun.source.tree.BlockTree;
import com.sun.source.tree.ClassTree;
import com.sun.source.tree.CompilationUnitTree;
import com.sun.source.tree.CompoundAssignmentTree;
import com.sun.source.tree.DoWhileLoopTree;
import com.sun.source.tree.ExpressionTree;
import com.sun.source.tree.ForLoopTree;
import com.sun.source.tree.ImportTree;
import com.sun.source.tree.LambdaExpressionTree;
import com.sun.source.tree.LineMap;
import com.sun.source.tree.MemberReferenceTree;
import com.sun.source.tree.MethodInvocationTree;
import com.sun.source.tree.MethodTree;
import com.sun.source.tree.NewArrayTree;
import com.sun.source.tree.NewClassTree;
import com.sun.source.tree.SynchronizedTree;
import com.sun.source.tree.ThrowTree;
import com.sun.source.tree.Tree;
import com.sun.source.tree.TryTree;
import com.sun.source.tree.TypeCastTree;
import com.sun.source.tree.VariableTree;
import com.sun.source.tree.WhileLoopTree;
import com.sun.source.util.JavacTask;
import com.sun.source.util.SourcePositions;
import com.sun.source.util.TreePath;
import com.sun.source.util.TreePathScanner;
import com.sun.source.util.Trees;
import java.nio.file.Files;
import java.nio.file.Path;
import java.util.HashMap;
import java.util.HashSet;
import java.util.List;
import java.util.Map;
import java.util.Set;
import java.util.TreeSet;
import javax.lang.model.element.Element;
import javax.lang.model.element.ElementKind;
import javax.lang.model.element.ExecutableElement;
import javax.lang.model.element.Modifier;
import javax.lang.model.element.VariableElement;
import javax.lang.model.type.TypeKind;
import javax.lang.model.type.TypeMirror;
import javax.lang.model.util.Elements;
import javax.tools.JavaCompiler;
import javax.tools.StandardJavaFileManager;
import javax.tools.ToolProvider;

/** The rules of LANGUAGE.md, as far as the compiler's own reading of the source shows whether they are kept. */
public final class RulesTest {
    private static final Checks CHECKS = new Checks("RulesTest");
    private static final Path SOURCE = Path.of("src/main/java/RollingThings.java");
    /** What the class takes of the library of rule 4. */
    private static final Set<String> LIBRARY = Set.of(
        "java.util.Arrays.fill", "java.lang.Math.max", "java.lang.Math.min", "java.lang.Integer.bitCount",
        "java.lang.Object.<init>");
    private static final int MOST_LINES = 60, MOST_PARAMETERS = 7, MOST_DEEP = 8, MOST_CLASSES = 12, MOST_FIELDS = 20;

    public static void main(String[] args) throws Exception {
        CHECKS.holds("rule 3: signs 1 to 127 alone", Files.readString(SOURCE).chars().allMatch(sign -> sign < 128));
        JavaCompiler compiler = ToolProvider.getSystemJavaCompiler();
        try (StandardJavaFileManager files = compiler.getStandardFileManager(null, null, null)) {
            JavacTask task = (JavacTask) compiler.getTask(
                null, files, null, List.of("--release", "17", "-proc:none"), null, files.getJavaFileObjects(SOURCE));
            CompilationUnitTree unit = task.parse().iterator().next();
            task.analyze();
            Reader reader = new Reader(Trees.instance(task), task.getElements(), unit);
            reader.scan(unit, null);
            CHECKS.holds("rule 11: classes", reader.classes <= MOST_CLASSES);
            calls(reader.calls);
        }
        CHECKS.end();
    }

    /** Rules 8 and 11: only what carries its depth calls itself, and other calls go eight deep at most. */
    private static void calls(Map<String, Set<String>> calls) {
        CHECKS.holds("there are calls", calls.size() > 30);
        for (String method : new TreeSet<>(calls.keySet())) {
            CHECKS.holds("rule 11: how deep " + method + " goes", deep(method, calls, Set.of()) <= MOST_DEEP);
            boolean itself = calls.get(method).contains(method);
            CHECKS.holds("rule 8: " + method + " calls itself", !itself || method.equals("Tours.extend"));
        }
    }

    /** Calls of a method by itself are left out; any other ring of calls is told as far too deep. */
    private static int deep(String method, Map<String, Set<String>> calls, Set<String> above) {
        if (above.contains(method)) {
            return 1000;
        }
        Set<String> open = new HashSet<>(above);
        open.add(method);
        int most = 0;
        for (String next : calls.getOrDefault(method, Set.of())) {
            if (!next.equals(method)) {
                most = Math.max(most, deep(next, calls, open));
            }
        }
        return 1 + most;
    }

    private static final class Reader extends TreePathScanner<Void, Void> {
        private final Trees trees;
        private final Elements elements;
        private final CompilationUnitTree unit;
        private final Map<String, Set<String>> calls = new HashMap<>();
        private int classes;

        Reader(Trees trees, Elements elements, CompilationUnitTree unit) {
            this.trees = trees;
            this.elements = elements;
            this.unit = unit;
        }

        private String at(Tree tree) {
            SourcePositions positions = trees.getSourcePositions();
            LineMap lines = unit.getLineMap();
            return "line " + lines.getLineNumber(positions.getStartPosition(unit, tree)) + ": ";
        }

        private void not(String what, Tree tree) {
            CHECKS.holds(at(tree) + what, false);
        }

        private Element elementOf(Tree tree) {
            return trees.getElement(new TreePath(getCurrentPath(), tree));
        }

        private TypeMirror typeOf(Tree tree) {
            return trees.getTypeMirror(new TreePath(getCurrentPath(), tree));
        }

        // ---- what does not stand there at all

        @Override
        public Void visitThrow(ThrowTree tree, Void none) {
            not("rule 6: throw", tree);
            return super.visitThrow(tree, none);
        }

        @Override
        public Void visitTry(TryTree tree, Void none) {
            not("rule 6: try", tree);
            return super.visitTry(tree, none);
        }

        @Override
        public Void visitSynchronized(SynchronizedTree tree, Void none) {
            not("rule 6: synchronized", tree);
            return super.visitSynchronized(tree, none);
        }

        @Override
        public Void visitAssert(AssertTree tree, Void none) {
            not("rule 6: assert", tree);
            return super.visitAssert(tree, none);
        }

        @Override
        public Void visitTypeCast(TypeCastTree tree, Void none) {
            not("rule 6: a cast, and none is needed", tree);
            return super.visitTypeCast(tree, none);
        }

        @Override
        public Void visitLambdaExpression(LambdaExpressionTree tree, Void none) {
            not("rule 2: a lambda", tree);
            return super.visitLambdaExpression(tree, none);
        }

        @Override
        public Void visitMemberReference(MemberReferenceTree tree, Void none) {
            not("rule 2: a method reference", tree);
            return super.visitMemberReference(tree, none);
        }

        @Override
        public Void visitWhileLoop(WhileLoopTree tree, Void none) {
            not("rule 9: a loop without a counter of its own", tree);
            return super.visitWhileLoop(tree, none);
        }

        @Override
        public Void visitDoWhileLoop(DoWhileLoopTree tree, Void none) {
            not("rule 9: a loop without a counter of its own", tree);
            return super.visitDoWhileLoop(tree, none);
        }

        // ---- what stands there in its bounds

        @Override
        public Void visitForLoop(ForLoopTree tree, Void none) {
            boolean counted = tree.getCondition() != null && tree.getInitializer().size() == 1
                && tree.getUpdate().size() == 1;
            CHECKS.holds(at(tree) + "rule 9: a counter against a bound", counted);
            return super.visitForLoop(tree, none);
        }

        @Override
        public Void visitImport(ImportTree tree, Void none) {
            String name = tree.getQualifiedIdentifier().toString();
            CHECKS.holds(at(tree) + "rule 4: import " + name, name.equals("java.util.Arrays"));
            return super.visitImport(tree, none);
        }

        @Override
        public Void visitBinary(BinaryTree tree, Void none) {
            operator(tree.getKind(), tree, tree.getLeftOperand(), tree.getRightOperand());
            return super.visitBinary(tree, none);
        }

        @Override
        public Void visitCompoundAssignment(CompoundAssignmentTree tree, Void none) {
            operator(tree.getKind(), tree, tree.getVariable(), tree.getExpression());
            return super.visitCompoundAssignment(tree, none);
        }

        /** Masks are for numbers; a divisor is a number that stands in the source. */
        private void operator(Tree.Kind kind, Tree tree, Tree left, ExpressionTree right) {
            switch (kind) {
                case AND, OR, XOR, AND_ASSIGNMENT, OR_ASSIGNMENT, XOR_ASSIGNMENT ->
                    CHECKS.holds(at(tree) + "rule 10: a mask of booleans", typeOf(left).getKind() != TypeKind.BOOLEAN);
                case DIVIDE, REMAINDER, DIVIDE_ASSIGNMENT, REMAINDER_ASSIGNMENT ->
                    CHECKS.holds(at(tree) + "rule 7: a divisor that may be 0", isNumberInSource(right));
                case PLUS, PLUS_ASSIGNMENT ->
                    CHECKS.holds(at(tree) + "rule 10: texts joined by +", typeOf(left).getKind().isPrimitive());
                default -> { }
            }
        }

        private boolean isNumberInSource(ExpressionTree tree) {
            if (tree.getKind() == Tree.Kind.INT_LITERAL) {
                return !tree.toString().equals("0");
            }
            Object value = elementOf(tree) instanceof VariableElement variable ? variable.getConstantValue() : null;
            return value instanceof Integer && (Integer) value != 0;
        }

        /** Rule 12 and the one room: rows are made with the object, of lengths that stand in the source. */
        @Override
        public Void visitNewArray(NewArrayTree tree, Void none) {
            CHECKS.holds(at(tree) + "a row that a call makes", isMadeWithObject());
            for (ExpressionTree length : tree.getDimensions()) {
                CHECKS.holds(at(tree) + "rule 3: of one dimension", tree.getDimensions().size() == 1);
                boolean product = length instanceof BinaryTree both && both.getKind() == Tree.Kind.MULTIPLY
                    && isNumberInSource(both.getLeftOperand()) && isNumberInSource(both.getRightOperand());
                CHECKS.holds(at(tree) + "rule 7: a length that may be below 0", product || isNumberInSource(length));
            }
            return super.visitNewArray(tree, none);
        }

        @Override
        public Void visitNewClass(NewClassTree tree, Void none) {
            CHECKS.holds(at(tree) + "an object that a call makes", isMadeWithObject());
            CHECKS.holds(at(tree) + "rule 2: an anonymous class", tree.getClassBody() == null);
            called(trees.getElement(getCurrentPath()));
            return super.visitNewClass(tree, none);
        }

        private boolean isMadeWithObject() {
            MethodTree method = methodAround();
            return method == null || method.getReturnType() == null;
        }

        private MethodTree methodAround() {
            for (TreePath path = getCurrentPath(); path != null; path = path.getParentPath()) {
                if (path.getLeaf() instanceof MethodTree method) {
                    return method;
                }
            }
            return null;
        }

        @Override
        public Void visitMethodInvocation(MethodInvocationTree tree, Void none) {
            called(trees.getElement(getCurrentPath()));
            return super.visitMethodInvocation(tree, none);
        }

        private void called(Element method) {
            MethodTree from = methodAround();
            String name = nameOf(method);
            if (elements.getPackageOf(method).isUnnamed()) {
                String caller = from == null ? "fields" : nameOf(trees.getElement(pathOf(from)));
                calls.computeIfAbsent(caller, key -> new TreeSet<>()).add(name);
            } else {
                CHECKS.holds("rule 4: " + name, LIBRARY.contains(name));
            }
        }

        private TreePath pathOf(Tree tree) {
            return trees.getPath(unit, tree);
        }

        private static String nameOf(Element method) {
            return (method.getEnclosingElement() + "." + method.getSimpleName()).replaceFirst("^RollingThings\\.(?=[A-Z])", "");
        }

        @Override
        public Void visitMethod(MethodTree tree, Void none) {
            SourcePositions positions = trees.getSourcePositions();
            LineMap lines = unit.getLineMap();
            long first = lines.getLineNumber(Math.max(0, positions.getStartPosition(unit, tree)));
            long last = lines.getLineNumber(Math.max(0, positions.getEndPosition(unit, tree)));
            CHECKS.holds(at(tree) + "rule 11: how long it is", last - first < MOST_LINES);
            CHECKS.holds(at(tree) + "rule 11: parameters", tree.getParameters().size() <= MOST_PARAMETERS);
            ExecutableElement method = (ExecutableElement) trees.getElement(getCurrentPath());
            calls.computeIfAbsent(nameOf(method), key -> new TreeSet<>());
            addWhatItStandsFor(method);
            return super.visitMethod(tree, none);
        }

        /** A call of an abstract method may go to each that overrides it. */
        private void addWhatItStandsFor(ExecutableElement method) {
            Element type = method.getEnclosingElement();
            if (!(type instanceof javax.lang.model.element.TypeElement own)) {
                return;
            }
            Element above = elements.getTypeElement(own.getSuperclass().toString());
            if (above == null || !elements.getPackageOf(above).isUnnamed()) {
                return;
            }
            for (Element other : above.getEnclosedElements()) {
                if (other instanceof ExecutableElement one && elements.overrides(method, one, own)) {
                    calls.computeIfAbsent(nameOf(one), key -> new TreeSet<>()).add(nameOf(method));
                }
            }
        }

        @Override
        public Void visitClass(ClassTree tree, Void none) {
            classes++;
            boolean outer = getCurrentPath().getParentPath().getLeaf() instanceof CompilationUnitTree;
            Set<Modifier> modifiers = tree.getModifiers().getFlags();
            CHECKS.holds(at(tree) + "rule 2: a class that is not static", outer || modifiers.contains(Modifier.STATIC));
            int fields = 0;
            for (Tree member : tree.getMembers()) {
                CHECKS.holds(at(member) + "rule 5: a block that is no method", !(member instanceof BlockTree));
                if (member instanceof VariableTree field && !field.getModifiers().getFlags().contains(Modifier.STATIC)) {
                    fields++;
                }
            }
            CHECKS.holds(at(tree) + "rule 11: fields", fields <= MOST_FIELDS);
            return super.visitClass(tree, none);
        }

        @Override
        public Void visitVariable(VariableTree tree, Void none) {
            Element variable = trees.getElement(getCurrentPath());
            if (variable != null && variable.getKind() == ElementKind.FIELD
                    && variable.getModifiers().contains(Modifier.STATIC)) {
                boolean writtenOut = tree.getInitializer() instanceof NewArrayTree;
                boolean constant = ((VariableElement) variable).getConstantValue() != null;
                CHECKS.holds(at(tree) + "rule 5: static, not final", variable.getModifiers().contains(Modifier.FINAL));
                CHECKS.holds(at(tree) + "rule 5: no constant", constant || writtenOut);
            }
            return super.visitVariable(tree, none);
        }
    }
}
