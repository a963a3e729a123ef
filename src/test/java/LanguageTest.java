import com.sun.source.tree.AnnotationTree;
import com.sun.source.tree.AssertTree;
import com.sun.source.tree.BinaryTree;
import com.sun.source.tree.CatchTree;
import com.sun.source.tree.ClassTree;
import com.sun.source.tree.CompilationUnitTree;
import com.sun.source.tree.CompoundAssignmentTree;
import com.sun.source.tree.DoWhileLoopTree;
import com.sun.source.tree.ExpressionTree;
import com.sun.source.tree.ForLoopTree;
import com.sun.source.tree.ImportTree;
import com.sun.source.tree.InstanceOfTree;
import com.sun.source.tree.LambdaExpressionTree;
import com.sun.source.tree.LiteralTree;
import com.sun.source.tree.MemberReferenceTree;
import com.sun.source.tree.MethodInvocationTree;
import com.sun.source.tree.MethodTree;
import com.sun.source.tree.NewArrayTree;
import com.sun.source.tree.NewClassTree;
import com.sun.source.tree.SynchronizedTree;
import com.sun.source.tree.ThrowTree;
import com.sun.source.tree.Tree;
import com.sun.source.tree.TryTree;
import com.sun.source.tree.TypeCastTree;
import com.sun.source.tree.VariableTree;
import com.sun.source.tree.WhileLoopTree;
import com.sun.source.util.JavacTask;
import com.sun.source.util.TreePathScanner;
import com.sun.source.util.Trees;
import java.io.IOException;
import java.nio.charset.StandardCharsets;
import java.nio.file.Files;
import java.nio.file.Path;
import java.util.ArrayList;
import java.util.LinkedHashMap;
import java.util.LinkedHashSet;
import java.util.List;
import java.util.Map;
import java.util.Set;
import javax.lang.model.element.Element;
import javax.lang.model.element.ElementKind;
import javax.lang.model.element.ExecutableElement;
import javax.lang.model.element.Modifier;
import javax.lang.model.type.TypeMirror;
import javax.tools.JavaCompiler;
import javax.tools.StandardJavaFileManager;
import javax.tools.ToolProvider;

/** The class keeps to the rules of LANGUAGE.md, as far as its text tells it; it uses less than the rules leave. */
public final class LanguageTest {
    private static final Path SOURCE = Path.of("src/main/java/Belowhouse.java");

    private static final int MOST_LINES = 60;
    private static final int MOST_PARAMETERS = 7;
    private static final int MOST_CLASSES = 12;
    private static final int MOST_FIELDS = 20;
    private static final int DEEPEST = 8;

    private static final Set<String> LIBRARY = Set.of("java.lang.Integer.bitCount", "java.lang.Math.max",
            "java.lang.Math.min");
    private static final Set<String> THROWN = Set.of("IndexOutOfBoundsException", "IllegalArgumentException",
            "IllegalStateException");
    private static final Set<String> CAST_TO = Set.of("int", "long", "double", "float");

    public static void main(String[] args) throws IOException {
        String text = Files.readString(SOURCE, StandardCharsets.ISO_8859_1);
        Due.isTrue("all signs are plain ones", text.chars().allMatch(sign -> sign == '\n' || sign >= 32 && sign < 127));
        JavaCompiler compiler = ToolProvider.getSystemJavaCompiler();
        try (StandardJavaFileManager files = compiler.getStandardFileManager(null, null, null)) {
            JavacTask task = (JavacTask) compiler.getTask(null, files, null, List.of("-proc:none"), null,
                    files.getJavaFileObjects(SOURCE));
            CompilationUnitTree unit = task.parse().iterator().next();
            task.analyze();
            Reader reader = new Reader(Trees.instance(task), unit);
            reader.scan(unit, null);
            Due.isTrue("rule 11: " + reader.classes + " classes", reader.classes <= MOST_CLASSES);
            callsAreNotDeep(reader.calls);
        }
        Due.end("LanguageTest");
    }

    /** Rules 8 and 11: one method alone calls itself, and calls that are no recursion go at most eight deep. */
    private static void callsAreNotDeep(Map<ExecutableElement, Set<ExecutableElement>> calls) {
        for (ExecutableElement method : calls.keySet()) {
            if (calls.get(method).contains(method)) {
                Due.is("rule 8: what calls itself", method.getSimpleName().toString(), "findsFollower");
                Due.isTrue("rule 8: it is private and static",
                        method.getModifiers().containsAll(Set.of(Modifier.PRIVATE, Modifier.STATIC)));
            }
            List<String> way = deepest(method, calls, new LinkedHashSet<>());
            Due.isTrue("rule 11: calls go at most eight deep: " + way, way.size() <= DEEPEST);
        }
    }

    private static List<String> deepest(ExecutableElement method,
            Map<ExecutableElement, Set<ExecutableElement>> calls, Set<ExecutableElement> open) {
        List<String> best = new ArrayList<>();
        open.add(method);
        for (ExecutableElement called : calls.getOrDefault(method, Set.of())) {
            if (called != method) {
                Due.isFalse("rule 8: " + called + " is called round", open.contains(called));
                if (!open.contains(called)) {
                    List<String> way = deepest(called, calls, open);
                    best = way.size() > best.size() ? way : best;
                }
            }
        }
        open.remove(method);
        List<String> way = new ArrayList<>();
        way.add(method.getEnclosingElement().getSimpleName() + "." + method.getSimpleName());
        way.addAll(best);
        return way;
    }

    /** Looks at each part of the text, and gathers which method calls which. */
    private static final class Reader extends TreePathScanner<Void, Void> {
        private final Trees trees;
        private final CompilationUnitTree unit;
        private final Map<ExecutableElement, Set<ExecutableElement>> calls = new LinkedHashMap<>();
        private ExecutableElement method;
        private int classes;

        Reader(Trees trees, CompilationUnitTree unit) {
            this.trees = trees;
            this.unit = unit;
            Due.isTrue("no package line", unit.getPackageName() == null);
        }

        private void refuse(String rule, Tree tree) {
            Due.isTrue(rule + ", line " + line(trees.getSourcePositions().getStartPosition(unit, tree)) + ": " + tree,
                    false);
        }

        private long line(long position) {
            return unit.getLineMap().getLineNumber(position);
        }

        private Element element() {
            return trees.getElement(getCurrentPath());
        }

        @Override
        public Void visitImport(ImportTree tree, Void none) {
            refuse("rule 4: an import", tree);
            return super.visitImport(tree, none);
        }

        @Override
        public Void visitAnnotation(AnnotationTree tree, Void none) {
            refuse("an annotation", tree);
            return super.visitAnnotation(tree, none);
        }

        @Override
        public Void visitClass(ClassTree tree, Void none) {
            classes++;
            int fields = 0;
            for (Tree member : tree.getMembers()) {
                if (member.getKind() == Tree.Kind.BLOCK) {
                    refuse("rule 5: a block that initialises", member);
                }
                if (member instanceof VariableTree field) {
                    fields += field.getModifiers().getFlags().contains(Modifier.STATIC) ? 0 : 1;
                }
            }
            Due.isTrue("rule 11: " + tree.getSimpleName() + " has " + fields + " fields", fields <= MOST_FIELDS);
            return super.visitClass(tree, none);
        }

        @Override
        public Void visitMethod(MethodTree tree, Void none) {
            ExecutableElement outer = method;
            method = (ExecutableElement) element();
            calls.put(method, new LinkedHashSet<>());
            long first = line(trees.getSourcePositions().getStartPosition(unit, tree));
            long last = line(trees.getSourcePositions().getEndPosition(unit, tree));
            Due.isTrue("rule 11: lines of " + tree.getName(), last - first < MOST_LINES);
            Due.isTrue("rule 11: parameters of " + tree.getName(), tree.getParameters().size() <= MOST_PARAMETERS);
            Due.isFalse("rule 6: " + tree.getName() + " is synchronized",
                    tree.getModifiers().getFlags().contains(Modifier.SYNCHRONIZED));
            Due.isFalse("rule 6: equals, hashCode or toString",
                    Set.of("equals", "hashCode", "toString").contains(tree.getName().toString()));
            super.visitMethod(tree, none);
            method = outer;
            return null;
        }

        @Override
        public Void visitVariable(VariableTree tree, Void none) {
            Element variable = element();
            boolean isStatic = variable.getModifiers().contains(Modifier.STATIC);
            if (isStatic && !variable.getModifiers().contains(Modifier.FINAL)) {
                refuse("rule 5: a static field that is not final", tree);
            }
            if (isStatic && !variable.asType().toString().equals("int")) {
                refuse("rule 5: a static field that is no number", tree);
            }
            if (!isAllowed(variable.asType().toString())) {
                refuse("rule 3: a type", tree);
            }
            return super.visitVariable(tree, none);
        }

        private static boolean isAllowed(String type) {
            return Set.of("int", "long", "char", "boolean", "int[]", "Belowhouse.Order[]").contains(type)
                    || type.startsWith("Belowhouse.") && !type.contains("[");
        }

        @Override
        public Void visitMethodInvocation(MethodInvocationTree tree, Void none) {
            Element called = element();
            String owner = called.getEnclosingElement().toString();
            boolean isOwn = owner.startsWith("Belowhouse") || called.getKind() == ElementKind.CONSTRUCTOR;
            if (!isOwn && !LIBRARY.contains(owner + "." + called.getSimpleName())) {
                refuse("rule 4: a call of the library", tree);
            }
            if (method != null && called.getKind() == ElementKind.METHOD) {
                calls.get(method).add((ExecutableElement) called);
            }
            return super.visitMethodInvocation(tree, none);
        }

        @Override
        public Void visitNewClass(NewClassTree tree, Void none) {
            TypeMirror type = trees.getTypeMirror(getCurrentPath());
            boolean isThrown = getCurrentPath().getParentPath().getLeaf() instanceof ThrowTree;
            boolean isMade = method == null || method.getKind() == ElementKind.CONSTRUCTOR;
            if (!isThrown && !(isMade && type.toString().startsWith("Belowhouse."))) {
                refuse("an object that a call makes", tree);
            }
            if (tree.getClassBody() != null) {
                refuse("rule 2: a class without a name", tree);
            }
            return super.visitNewClass(tree, none);
        }

        @Override
        public Void visitNewArray(NewArrayTree tree, Void none) {
            boolean isMade = method == null || method.getKind() == ElementKind.CONSTRUCTOR;
            if (!isMade || tree.getDimensions().size() != 1) {
                refuse("an array that a call makes, or not of one dimension", tree);
            }
            return super.visitNewArray(tree, none);
        }

        @Override
        public Void visitThrow(ThrowTree tree, Void none) {
            boolean isPlain = tree.getExpression() instanceof NewClassTree thrown
                    && THROWN.contains(thrown.getIdentifier().toString()) && thrown.getArguments().size() == 1
                    && thrown.getArguments().get(0) instanceof LiteralTree;
            if (!isPlain || method == null || method.getKind() == ElementKind.CONSTRUCTOR) {
                refuse("rule 6: what is thrown", tree);
            }
            return super.visitThrow(tree, none);
        }

        @Override
        public Void visitTypeCast(TypeCastTree tree, Void none) {
            if (!CAST_TO.contains(tree.getType().toString())) {
                refuse("rule 6: a cast", tree);
            }
            return super.visitTypeCast(tree, none);
        }

        @Override
        public Void visitBinary(BinaryTree tree, Void none) {
            boolean isDivision = tree.getKind() == Tree.Kind.DIVIDE || tree.getKind() == Tree.Kind.REMAINDER;
            if (isDivision && !isTested(tree.getRightOperand())) {
                refuse("rule 7: a divisor that is not looked at", tree);
            }
            if (trees.getTypeMirror(getCurrentPath()).toString().equals("java.lang.String")) {
                refuse("rule 10: texts joined by +", tree);
            }
            return super.visitBinary(tree, none);
        }

        @Override
        public Void visitCompoundAssignment(CompoundAssignmentTree tree, Void none) {
            boolean isDivision = tree.getKind() == Tree.Kind.DIVIDE_ASSIGNMENT
                    || tree.getKind() == Tree.Kind.REMAINDER_ASSIGNMENT;
            if (isDivision && !isTested(tree.getExpression())) {
                refuse("rule 7: a divisor that is not looked at", tree);
            }
            return super.visitCompoundAssignment(tree, none);
        }

        /** A number that is written out, a counter from 1 on, or what atLeastOne() gave. */
        private static boolean isTested(ExpressionTree divisor) {
            return Set.of("2", "10", "k", "(double)all", "(float)all").contains(divisor.toString());
        }

        @Override
        public Void visitForLoop(ForLoopTree tree, Void none) {
            boolean isCounted = tree.getInitializer().size() == 1 && tree.getInitializer().get(0) instanceof VariableTree
                    && tree.getCondition() instanceof BinaryTree && tree.getUpdate().size() == 1;
            if (!isCounted || !countsTowards(tree)) {
                refuse("rule 9: a loop without a counter", tree);
            }
            return super.visitForLoop(tree, none);
        }

        private static boolean countsTowards(ForLoopTree tree) {
            String name = ((VariableTree) tree.getInitializer().get(0)).getName().toString();
            String until = ((BinaryTree) tree.getCondition()).getLeftOperand().toString();
            String step = tree.getUpdate().get(0).toString();
            Tree.Kind test = tree.getCondition().getKind();
            boolean isUp = test == Tree.Kind.LESS_THAN || test == Tree.Kind.LESS_THAN_EQUAL;
            boolean isDown = test == Tree.Kind.GREATER_THAN_EQUAL;
            return until.equals(name)
                    && (isUp && step.equals(name + "++;") || isDown && step.equals(name + "--;"));
        }

        @Override
        public Void visitWhileLoop(WhileLoopTree tree, Void none) {
            refuse("rule 9: a loop without a counter", tree);
            return super.visitWhileLoop(tree, none);
        }

        @Override
        public Void visitDoWhileLoop(DoWhileLoopTree tree, Void none) {
            refuse("rule 9: a loop without a counter", tree);
            return super.visitDoWhileLoop(tree, none);
        }

        @Override
        public Void visitTry(TryTree tree, Void none) {
            refuse("rule 6: a try", tree);
            return super.visitTry(tree, none);
        }

        @Override
        public Void visitCatch(CatchTree tree, Void none) {
            refuse("rule 6: a catch", tree);
            return super.visitCatch(tree, none);
        }

        @Override
        public Void visitAssert(AssertTree tree, Void none) {
            refuse("rule 6: an assert", tree);
            return super.visitAssert(tree, none);
        }

        @Override
        public Void visitSynchronized(SynchronizedTree tree, Void none) {
            refuse("rule 6: synchronized", tree);
            return super.visitSynchronized(tree, none);
        }

        @Override
        public Void visitInstanceOf(InstanceOfTree tree, Void none) {
            refuse("instanceof", tree);
            return super.visitInstanceOf(tree, none);
        }

        @Override
        public Void visitLambdaExpression(LambdaExpressionTree tree, Void none) {
            refuse("rule 2: a lambda", tree);
            return super.visitLambdaExpression(tree, none);
        }

        @Override
        public Void visitMemberReference(MemberReferenceTree tree, Void none) {
            refuse("rule 2: a method reference", tree);
            return super.visitMemberReference(tree, none);
        }
    }

    private LanguageTest() {
    }
}
