import com.sun.source.tree.AssertTree;
import com.sun.source.tree.AssignmentTree;
import com.sun.source.tree.BinaryTree;
import com.sun.source.tree.BlockTree;
import com.sun.source.tree.ClassTree;
import com.sun.source.tree.CompilationUnitTree;
import com.sun.source.tree.CompoundAssignmentTree;
import com.sun.source.tree.ConditionalExpressionTree;
import com.sun.source.tree.DoWhileLoopTree;
import com.sun.source.tree.EnhancedForLoopTree;
import com.sun.source.tree.ExpressionTree;
import com.sun.source.tree.ForLoopTree;
import com.sun.source.tree.IdentifierTree;
import com.sun.source.tree.InstanceOfTree;
import com.sun.source.tree.LambdaExpressionTree;
import com.sun.source.tree.LiteralTree;
import com.sun.source.tree.MemberReferenceTree;
import com.sun.source.tree.MethodInvocationTree;
import com.sun.source.tree.MethodTree;
import com.sun.source.tree.NewArrayTree;
import com.sun.source.tree.NewClassTree;
import com.sun.source.tree.ParenthesizedTree;
import com.sun.source.tree.SwitchTree;
import com.sun.source.tree.SynchronizedTree;
import com.sun.source.tree.ThrowTree;
import com.sun.source.tree.Tree;
import com.sun.source.tree.TryTree;
import com.sun.source.tree.TypeCastTree;
import com.sun.source.tree.UnaryTree;
import com.sun.source.tree.VariableTree;
import com.sun.source.tree.WhileLoopTree;
import com.sun.source.util.JavacTask;
import com.sun.source.util.SourcePositions;
import com.sun.source.util.TreePath;
import com.sun.source.util.TreePathScanner;
import com.sun.source.util.TreeScanner;
import com.sun.source.util.Trees;
import java.io.File;
import java.lang.reflect.Array;
import java.lang.reflect.Field;
import java.nio.file.Files;
import java.util.ArrayDeque;
import java.util.Deque;
import java.util.HashMap;
import java.util.HashSet;
import java.util.List;
import java.util.Map;
import java.util.Set;
import java.util.TreeSet;
import javax.lang.model.element.Element;
import javax.lang.model.element.ElementKind;
import javax.lang.model.element.ExecutableElement;
import javax.lang.model.element.Modifier;
import javax.lang.model.element.TypeElement;
import javax.lang.model.element.VariableElement;
import javax.lang.model.type.ArrayType;
import javax.lang.model.type.DeclaredType;
import javax.lang.model.type.TypeKind;
import javax.lang.model.type.TypeMirror;
import javax.tools.JavaCompiler;
import javax.tools.StandardJavaFileManager;
import javax.tools.ToolProvider;

/**
 * The rules of LANGUAGE.md, held against the program as the compiler reads it: rule by rule what can be seen without
 * running it (rule 1 is Face's, and that no call throws is what the tests of the answers show). The program keeps
 * within less than the rules allow, and so does this test: no recursion, no text, no list, nothing made by a call.
 */
public final class Form {
    private static final File SOURCE = new File("src/main/java/ScaleGroups.java");
    private static final Set<String> LIBRARY = Set.of("Math.min", "Math.max", "Math.abs", "Integer.bitCount");
    private static final Set<TypeKind> NUMBERS = Set.of(TypeKind.INT, TypeKind.LONG);
    private static final Set<Tree.Kind> COMPARES = Set.of(Tree.Kind.LESS_THAN, Tree.Kind.LESS_THAN_EQUAL,
            Tree.Kind.GREATER_THAN, Tree.Kind.GREATER_THAN_EQUAL);
    private static final int MOST_PARAMETERS = 7;
    private static final int MOST_LINES = 60;
    private static final int MOST_DEEP = 8;
    private static final int MOST_CLASSES = 12;
    private static final int MOST_FIELDS = 20;
    private static final int MOST_MADE = 150;
    private static final int MOST_ELEMENTS = 4000;

    private static int wrong = 0;

    private final CompilationUnitTree unit;
    private final Trees trees;
    private final SourcePositions positions;
    /** Whom each method calls, by names; those of the library are called and call none. */
    private final Map<String, Set<String>> calls = new HashMap<>();
    private int classes = 0;

    private Form(CompilationUnitTree unit, Trees trees) {
        this.unit = unit;
        this.trees = trees;
        positions = trees.getSourcePositions();
    }

    public static void main(String[] args) throws Exception {
        JavaCompiler compiler = ToolProvider.getSystemJavaCompiler();
        try (StandardJavaFileManager files = compiler.getStandardFileManager(null, null, null)) {
            JavacTask task = (JavacTask) compiler.getTask(null, files, null, List.of("-proc:none"), null,
                    files.getJavaFileObjects(SOURCE));
            CompilationUnitTree unit = task.parse().iterator().next();
            task.analyze();
            new Form(unit, Trees.instance(task)).read();
        }
        text();
        made();
        System.out.println(wrong == 0 ? "Form: all is as due" : "Form: " + wrong + " wrong");
        System.exit(wrong == 0 ? 0 : 1);
    }

    private static void need(int rule, boolean holds, String what) {
        if (!holds) {
            wrong++;
            System.out.println("Form, rule " + rule + ": " + what);
        }
    }

    /** Plain signs alone, and lines that can be read. */
    private static void text() throws Exception {
        for (String line : Files.readAllLines(SOURCE.toPath())) {
            need(4, line.chars().allMatch(sign -> sign >= 32 && sign < 127), "another sign in: " + line);
            need(11, line.length() <= 120, "a long line: " + line);
        }
    }

    private void read() {
        need(4, unit.getImports().isEmpty() && unit.getPackageName() == null, "an import or a package");
        need(1, unit.getTypeDecls().size() == 1, "more than one class outside");
        new Reader().scan(unit, null);
        need(11, classes <= MOST_CLASSES, classes + " classes");
        for (String method : calls.keySet()) {
            depth(method, new ArrayDeque<>());
        }
    }

    /** How many calls are open at once, this one among them: of all that it may call the deepest, and one. */
    private int depth(String method, Deque<String> open) {
        if (open.contains(method)) {
            need(8, false, "recursion: " + open + " " + method);
            return 0;
        }
        open.addLast(method);
        int deepest = 0;
        for (String called : calls.getOrDefault(method, Set.of())) {
            deepest = Math.max(deepest, depth(called, open));
        }
        need(11, open.size() <= MOST_DEEP, "calls too deep: " + open);
        open.removeLast();
        return deepest + 1;
    }

    private final class Reader extends TreePathScanner<Void, Void> {
        private String where = "";
        private String method = "";

        private TypeMirror typeOf(Tree tree) {
            return trees.getTypeMirror(new TreePath(getCurrentPath(), tree));
        }

        private boolean inMethod() {
            return !method.isEmpty();
        }

        // ---- 2. Classes inside

        @Override
        public Void visitClass(ClassTree tree, Void none) {
            String outside = where;
            where = tree.getSimpleName().toString();
            classes++;
            boolean isInside = !outside.isEmpty();
            need(2, !inMethod(), "a class in a method: " + where);
            need(2, tree.getKind() == Tree.Kind.CLASS, "no class: " + where);
            need(2, !isInside || tree.getModifiers().getFlags().contains(Modifier.STATIC), "not static: " + where);
            need(2, tree.getExtendsClause() == null && tree.getImplementsClause().isEmpty(), "of another kind: " + where);
            int fields = 0;
            for (Tree member : tree.getMembers()) {
                need(5, !(member instanceof BlockTree), "a block outside of methods in " + where);
                boolean isField = member instanceof VariableTree field
                        && !field.getModifiers().getFlags().contains(Modifier.STATIC);
                fields += isField ? 1 : 0;
            }
            need(11, fields <= MOST_FIELDS, where + " has " + fields + " fields");
            super.visitClass(tree, none);
            where = outside;
            return null;
        }

        @Override
        public Void visitLambdaExpression(LambdaExpressionTree tree, Void none) {
            need(2, false, "a lambda in " + method);
            return super.visitLambdaExpression(tree, none);
        }

        @Override
        public Void visitMemberReference(MemberReferenceTree tree, Void none) {
            need(2, false, "a method reference in " + method);
            return super.visitMemberReference(tree, none);
        }

        // ---- 3. Types, 5. static fields

        @Override
        public Void visitVariable(VariableTree tree, Void none) {
            need(3, isPlain(trees.getTypeMirror(getCurrentPath())), "the type of " + tree + " in " + where);
            if (!inMethod() && tree.getModifiers().getFlags().contains(Modifier.STATIC)) {
                VariableElement field = (VariableElement) trees.getElement(getCurrentPath());
                need(5, field.getConstantValue() != null, "no constant: " + tree);
            }
            return super.visitVariable(tree, none);
        }

        private boolean isPlain(TypeMirror type) {
            if (type.getKind() == TypeKind.ARRAY) {
                TypeMirror element = ((ArrayType) type).getComponentType();
                boolean isRow = NUMBERS.contains(element.getKind()) || element.getKind() == TypeKind.BOOLEAN;
                return isRow || element.getKind() == TypeKind.ARRAY
                        && NUMBERS.contains(((ArrayType) element).getComponentType().getKind());
            }
            return NUMBERS.contains(type.getKind()) || type.getKind() == TypeKind.BOOLEAN || isOwn(type);
        }

        private boolean isOwn(TypeMirror type) {
            return type instanceof DeclaredType declared
                    && ((TypeElement) declared.asElement()).getQualifiedName().toString().startsWith("ScaleGroups");
        }

        @Override
        public Void visitLiteral(LiteralTree tree, Void none) {
            boolean isPlain = tree.getValue() instanceof Integer || tree.getValue() instanceof Long
                    || tree.getValue() instanceof Boolean;
            need(3, isPlain, "another kind of value: " + tree);
            return super.visitLiteral(tree, none);
        }

        @Override
        public Void visitTypeCast(TypeCastTree tree, Void none) {
            need(6, NUMBERS.contains(typeOf(tree.getType()).getKind()), "a cast to no number: " + tree);
            return super.visitTypeCast(tree, none);
        }

        // ---- 4. The library, 8. recursion, 11. depth

        @Override
        public Void visitMethod(MethodTree tree, Void none) {
            ExecutableElement it = (ExecutableElement) trees.getElement(getCurrentPath());
            method = nameOf(it);
            calls.putIfAbsent(method, new TreeSet<>());
            need(11, tree.getParameters().size() <= MOST_PARAMETERS, "many parameters: " + method);
            long lines = lineOf(positions.getEndPosition(unit, tree)) - lineOf(positions.getStartPosition(unit, tree));
            need(11, lines < MOST_LINES, lines + " lines: " + method);
            need(6, tree.getThrows().isEmpty(), "throws: " + method);
            need(12, it.getKind() != ElementKind.CONSTRUCTOR || isEmpty(tree), "what a constructor does: " + method);
            super.visitMethod(tree, none);
            method = "";
            return null;
        }

        /** But for the call of Object's, which the compiler puts there. */
        private boolean isEmpty(MethodTree constructor) {
            return constructor.getBody().getStatements().stream().allMatch(line -> line.toString().equals("super();"));
        }

        private long lineOf(long position) {
            return unit.getLineMap().getLineNumber(position);
        }

        private String nameOf(ExecutableElement it) {
            return it.getEnclosingElement().getSimpleName() + "." + it.getSimpleName();
        }

        @Override
        public Void visitMethodInvocation(MethodInvocationTree tree, Void none) {
            Element called = trees.getElement(getCurrentPath());
            if (called instanceof ExecutableElement it && it.getKind() == ElementKind.METHOD) {
                boolean isOwn = isOwn(it.getEnclosingElement().asType());
                need(4, isOwn || LIBRARY.contains(nameOf(it)), "not in its library: " + tree);
                need(6, inMethod(), "a call outside of methods: " + tree);
                calls.computeIfAbsent(method, any -> new TreeSet<>()).add(nameOf(it));
            }
            return super.visitMethodInvocation(tree, none);
        }

        // ---- 6. What is left out

        @Override
        public Void visitThrow(ThrowTree tree, Void none) {
            need(6, false, "throw in " + method);
            return super.visitThrow(tree, none);
        }

        @Override
        public Void visitTry(TryTree tree, Void none) {
            need(6, false, "try in " + method);
            return super.visitTry(tree, none);
        }

        @Override
        public Void visitSynchronized(SynchronizedTree tree, Void none) {
            need(6, false, "synchronized in " + method);
            return super.visitSynchronized(tree, none);
        }

        @Override
        public Void visitAssert(AssertTree tree, Void none) {
            need(6, false, "assert in " + method);
            return super.visitAssert(tree, none);
        }

        @Override
        public Void visitInstanceOf(InstanceOfTree tree, Void none) {
            need(6, false, "instanceof in " + method);
            return super.visitInstanceOf(tree, none);
        }

        @Override
        public Void visitSwitch(SwitchTree tree, Void none) {
            need(6, NUMBERS.contains(typeOf(tree.getExpression()).getKind()), "a switch on no number in " + method);
            return super.visitSwitch(tree, none);
        }

        @Override
        public Void visitBinary(BinaryTree tree, Void none) {
            boolean ofPlain = typeOf(tree.getLeftOperand()).getKind().isPrimitive()
                    && typeOf(tree.getRightOperand()).getKind().isPrimitive();
            need(6, ofPlain, "of objects or texts: " + tree);
            if (tree.getKind() == Tree.Kind.DIVIDE || tree.getKind() == Tree.Kind.REMAINDER) {
                need(7, isSafeDivisor(tree.getRightOperand()), "a divisor that was not looked at: " + tree);
            }
            return super.visitBinary(tree, none);
        }

        // ---- 7. Divisors: a number that is not 0, or looked at by the ?: in which it divides

        private boolean isSafeDivisor(ExpressionTree divisor) {
            if (divisor instanceof LiteralTree literal) {
                return !literal.getValue().equals(0);
            }
            Tree division = getCurrentPath().getLeaf();
            if (!(getCurrentPath().getParentPath().getLeaf() instanceof ConditionalExpressionTree choice)) {
                return false;
            }
            String condition = choice.getCondition().toString();
            return condition.equals(divisor + " > 0") && choice.getTrueExpression() == division
                    || condition.equals(divisor + " < 1") && choice.getFalseExpression() == division;
        }

        @Override
        public Void visitCompoundAssignment(CompoundAssignmentTree tree, Void none) {
            boolean divides = tree.getKind() == Tree.Kind.DIVIDE_ASSIGNMENT
                    || tree.getKind() == Tree.Kind.REMAINDER_ASSIGNMENT;
            need(7, !divides, "a divisor that was not looked at: " + tree);
            return super.visitCompoundAssignment(tree, none);
        }

        // ---- 9. Loops: a counter against a bound, which nothing else in the loop changes

        @Override
        public Void visitForLoop(ForLoopTree tree, Void none) {
            boolean counts = tree.getInitializer().size() == 1 && tree.getUpdate().size() == 1;
            if (counts && tree.getInitializer().get(0) instanceof VariableTree counter) {
                Set<String> name = Set.of(counter.getName().toString());
                Set<String> changed = changedIn(tree.getStatement());
                need(9, changedIn(tree.getUpdate().get(0)).equals(name), "counts another: for in " + method);
                need(9, !changed.containsAll(name), "its counter is changed: for in " + method);
                need(9, looksAt(tree.getCondition(), name, changed), "its counter has no bound: for in " + method);
            } else {
                need(9, false, "no counter of its own: for in " + method);
            }
            return super.visitForLoop(tree, none);
        }

        @Override
        public Void visitWhileLoop(WhileLoopTree tree, Void none) {
            Set<String> changed = changedIn(tree.getStatement());
            need(9, looksAt(tree.getCondition(), changed, changed), "no counter has a bound: while in " + method);
            return super.visitWhileLoop(tree, none);
        }

        /** Whether what must hold for one more round compares a counter with what the loop itself does not change. */
        private boolean looksAt(ExpressionTree condition, Set<String> counters, Set<String> changed) {
            if (condition instanceof ParenthesizedTree inner) {
                return looksAt(inner.getExpression(), counters, changed);
            }
            if (!(condition instanceof BinaryTree both)) {
                return false;
            }
            if (both.getKind() == Tree.Kind.CONDITIONAL_AND) {
                return looksAt(both.getLeftOperand(), counters, changed)
                        || looksAt(both.getRightOperand(), counters, changed);
            }
            Set<String> bound = namesIn(both.getRightOperand());
            bound.retainAll(changed);
            return COMPARES.contains(both.getKind()) && counters.contains(both.getLeftOperand().toString())
                    && bound.isEmpty();
        }

        @Override
        public Void visitDoWhileLoop(DoWhileLoopTree tree, Void none) {
            need(9, false, "do in " + method);
            return super.visitDoWhileLoop(tree, none);
        }

        @Override
        public Void visitEnhancedForLoop(EnhancedForLoopTree tree, Void none) {
            need(9, typeOf(tree.getExpression()).getKind() == TypeKind.ARRAY, "for over no array in " + method);
            return super.visitEnhancedForLoop(tree, none);
        }

        // ---- 12. What is made: by fields alone

        @Override
        public Void visitNewClass(NewClassTree tree, Void none) {
            need(12, !inMethod(), "an object made in " + method);
            need(2, tree.getClassBody() == null, "a class without a name in " + where);
            need(4, isOwn(typeOf(tree)), "an object of the library: " + tree);
            return super.visitNewClass(tree, none);
        }

        @Override
        public Void visitNewArray(NewArrayTree tree, Void none) {
            need(12, !inMethod(), "a row made in " + method);
            return super.visitNewArray(tree, none);
        }
    }

    /** The variables that are changed in some lines: i of i++, i = .. and i += .. */
    private static Set<String> changedIn(Tree lines) {
        Set<String> changed = new HashSet<>();
        new TreeScanner<Void, Void>() {
            @Override
            public Void visitUnary(UnaryTree tree, Void none) {
                boolean changes = tree.getKind() == Tree.Kind.POSTFIX_INCREMENT
                        || tree.getKind() == Tree.Kind.POSTFIX_DECREMENT
                        || tree.getKind() == Tree.Kind.PREFIX_INCREMENT
                        || tree.getKind() == Tree.Kind.PREFIX_DECREMENT;
                if (changes) {
                    changed.add(tree.getExpression().toString());
                }
                return super.visitUnary(tree, none);
            }

            @Override
            public Void visitAssignment(AssignmentTree tree, Void none) {
                changed.add(tree.getVariable().toString());
                return super.visitAssignment(tree, none);
            }

            @Override
            public Void visitCompoundAssignment(CompoundAssignmentTree tree, Void none) {
                changed.add(tree.getVariable().toString());
                return super.visitCompoundAssignment(tree, none);
            }
        }.scan(lines, null);
        return changed;
    }

    private static Set<String> namesIn(Tree lines) {
        Set<String> names = new HashSet<>();
        new TreeScanner<Void, Void>() {
            @Override
            public Void visitIdentifier(IdentifierTree tree, Void none) {
                names.add(tree.getName().toString());
                return super.visitIdentifier(tree, none);
            }
        }.scan(lines, null);
        return names;
    }

    // ---- 12. How much is made

    /** Objects, rows and their elements of one ScaleGroups: all that 512 calls need, as no call makes more. */
    private static void made() throws Exception {
        int[] counted = new int[2];
        count(new ScaleGroups(), counted, new HashSet<>());
        need(12, counted[0] <= MOST_MADE, counted[0] + " objects and rows");
        need(12, counted[1] <= MOST_ELEMENTS, counted[1] + " fields and elements");
    }

    /** An object is within no other one twice. */
    private static void count(Object it, int[] counted, Set<Integer> seen) throws Exception {
        need(12, seen.add(System.identityHashCode(it)), "an object in two places: " + it.getClass());
        counted[0]++;
        if (it instanceof int[][] rows) {
            counted[1] += rows.length;
            for (int[] row : rows) {
                count(row, counted, seen);
            }
        } else if (it.getClass().isArray()) {
            counted[1] += Array.getLength(it);
        } else {
            for (Field field : it.getClass().getDeclaredFields()) {
                if (!java.lang.reflect.Modifier.isStatic(field.getModifiers())) {
                    counted[1]++;
                    field.setAccessible(true);
                    if (!field.getType().isPrimitive()) {
                        count(field.get(it), counted, seen);
                    }
                }
            }
        }
    }
}
