import com.sun.source.tree.ArrayAccessTree;
import com.sun.source.tree.ArrayTypeTree;
import com.sun.source.tree.AssignmentTree;
import com.sun.source.tree.BinaryTree;
import com.sun.source.tree.BlockTree;
import com.sun.source.tree.ClassTree;
import com.sun.source.tree.CompilationUnitTree;
import com.sun.source.tree.CompoundAssignmentTree;
import com.sun.source.tree.ExpressionTree;
import com.sun.source.tree.ForLoopTree;
import com.sun.source.tree.IdentifierTree;
import com.sun.source.tree.LiteralTree;
import com.sun.source.tree.MemberSelectTree;
import com.sun.source.tree.MethodInvocationTree;
import com.sun.source.tree.MethodTree;
import com.sun.source.tree.ModifiersTree;
import com.sun.source.tree.NewArrayTree;
import com.sun.source.tree.PrimitiveTypeTree;
import com.sun.source.tree.Tree;
import com.sun.source.tree.TypeCastTree;
import com.sun.source.tree.UnaryTree;
import com.sun.source.tree.VariableTree;
import com.sun.source.util.JavacTask;
import com.sun.source.util.SourcePositions;
import com.sun.source.util.TreePath;
import com.sun.source.util.TreePathScanner;
import com.sun.source.util.TreeScanner;
import com.sun.source.util.Trees;
import java.io.File;
import java.util.EnumSet;
import java.util.HashSet;
import java.util.List;
import java.util.Map;
import java.util.Set;
import java.util.TreeMap;
import java.util.TreeSet;
import javax.lang.model.element.Modifier;
import javax.lang.model.element.VariableElement;
import javax.lang.model.type.TypeKind;
import javax.tools.JavaCompiler;
import javax.tools.StandardJavaFileManager;
import javax.tools.ToolProvider;

/**
 * The rules of LANGUAGE.md that can be read off the class's source. It is stricter than the rules where that makes
 * it plainer: it knows only the kinds of code that the class needs, and every loop has to be a counting for. What
 * can't be read off, rule 7 above all, is left to the tests that make calls.
 */
public final class LanguageTest {
    private static final String SOURCE = "src/main/java/LayoutWidths.java";
    private static final int MOST_PARAMETERS = 7;
    private static final int MOST_LINES = 60;
    private static final int MOST_FIELDS = 40;
    private static final int DEEPEST = 6;

    /** What may stand in the class at all, so that whatever isn't thought of here is told as well, as of rule 6. */
    private static final Set<Tree.Kind> KNOWN = EnumSet.of(
        Tree.Kind.COMPILATION_UNIT, Tree.Kind.CLASS, Tree.Kind.METHOD, Tree.Kind.VARIABLE, Tree.Kind.MODIFIERS,
        Tree.Kind.BLOCK, Tree.Kind.IF, Tree.Kind.FOR_LOOP, Tree.Kind.SWITCH, Tree.Kind.CASE, Tree.Kind.BREAK,
        Tree.Kind.CONTINUE, Tree.Kind.RETURN, Tree.Kind.EXPRESSION_STATEMENT, Tree.Kind.EMPTY_STATEMENT,
        Tree.Kind.PRIMITIVE_TYPE, Tree.Kind.ARRAY_TYPE, Tree.Kind.NEW_ARRAY, Tree.Kind.ARRAY_ACCESS,
        Tree.Kind.METHOD_INVOCATION, Tree.Kind.IDENTIFIER, Tree.Kind.PARENTHESIZED, Tree.Kind.CONDITIONAL_EXPRESSION,
        Tree.Kind.TYPE_CAST, Tree.Kind.INT_LITERAL, Tree.Kind.LONG_LITERAL, Tree.Kind.CHAR_LITERAL,
        Tree.Kind.BOOLEAN_LITERAL, Tree.Kind.ASSIGNMENT, Tree.Kind.PLUS, Tree.Kind.MINUS, Tree.Kind.MULTIPLY,
        Tree.Kind.DIVIDE, Tree.Kind.REMAINDER, Tree.Kind.LEFT_SHIFT, Tree.Kind.RIGHT_SHIFT,
        Tree.Kind.UNSIGNED_RIGHT_SHIFT, Tree.Kind.AND, Tree.Kind.OR, Tree.Kind.XOR, Tree.Kind.CONDITIONAL_AND,
        Tree.Kind.CONDITIONAL_OR, Tree.Kind.LOGICAL_COMPLEMENT, Tree.Kind.BITWISE_COMPLEMENT, Tree.Kind.UNARY_MINUS,
        Tree.Kind.UNARY_PLUS, Tree.Kind.LESS_THAN, Tree.Kind.LESS_THAN_EQUAL, Tree.Kind.GREATER_THAN,
        Tree.Kind.GREATER_THAN_EQUAL, Tree.Kind.EQUAL_TO, Tree.Kind.NOT_EQUAL_TO, Tree.Kind.PREFIX_INCREMENT,
        Tree.Kind.PREFIX_DECREMENT, Tree.Kind.POSTFIX_INCREMENT, Tree.Kind.POSTFIX_DECREMENT,
        Tree.Kind.PLUS_ASSIGNMENT, Tree.Kind.MINUS_ASSIGNMENT, Tree.Kind.MULTIPLY_ASSIGNMENT,
        Tree.Kind.AND_ASSIGNMENT, Tree.Kind.OR_ASSIGNMENT, Tree.Kind.XOR_ASSIGNMENT,
        Tree.Kind.LEFT_SHIFT_ASSIGNMENT, Tree.Kind.RIGHT_SHIFT_ASSIGNMENT);

    private static final Set<Tree.Kind> COMPARISONS = EnumSet.of(Tree.Kind.LESS_THAN, Tree.Kind.LESS_THAN_EQUAL,
        Tree.Kind.GREATER_THAN, Tree.Kind.GREATER_THAN_EQUAL);

    private static final Set<Tree.Kind> STEPS = EnumSet.of(Tree.Kind.PREFIX_INCREMENT, Tree.Kind.PREFIX_DECREMENT,
        Tree.Kind.POSTFIX_INCREMENT, Tree.Kind.POSTFIX_DECREMENT);

    private static final Set<Modifier> MODIFIERS = EnumSet.of(Modifier.PUBLIC, Modifier.PRIVATE, Modifier.STATIC,
        Modifier.FINAL);

    private static final Set<TypeKind> WHOLE_NUMBERS = EnumSet.of(TypeKind.INT, TypeKind.LONG, TypeKind.SHORT,
        TypeKind.BYTE, TypeKind.CHAR, TypeKind.BOOLEAN);

    private static int wrong = 0;
    private static CompilationUnitTree unit;
    private static SourcePositions positions;
    private static Trees trees;

    private static final Set<String> publicNames = new TreeSet<>();
    private static final Set<String> privateNames = new TreeSet<>();
    private static final Map<String, Set<String>> calls = new TreeMap<>();

    private static long lineOf(Tree tree) {
        return unit.getLineMap().getLineNumber(positions.getStartPosition(unit, tree));
    }

    private static void broken(int rule, Tree where, String what) {
        wrong++;
        System.out.println("rule " + rule + ", line " + lineOf(where) + ": " + what);
    }

    public static void main(String[] args) throws Exception {
        JavaCompiler compiler = ToolProvider.getSystemJavaCompiler();
        try (StandardJavaFileManager files = compiler.getStandardFileManager(null, null, null)) {
            JavacTask task = (JavacTask) compiler.getTask(null, files, null, List.of("--release", "17"), null,
                files.getJavaFileObjects(new File(SOURCE)));
            unit = task.parse().iterator().next();
            task.analyze();
            trees = Trees.instance(task);
            positions = trees.getSourcePositions();
            checkUnit();
        }
        System.out.println(wrong == 0 ? "the class keeps to the language" : wrong + " breaks of the language");
        if (wrong != 0) {
            System.exit(1);
        }
    }

    private static void checkUnit() {
        if (unit.getPackageName() != null) {
            broken(1, unit.getPackageName(), "a package line");
        }
        for (Tree line : unit.getImports()) {
            broken(3, line, "an import");
        }
        if (unit.getTypeDecls().size() != 1) {
            broken(1, unit, "more than one class in the file");
        }
        ClassTree type = (ClassTree) unit.getTypeDecls().get(0);
        if (type.getExtendsClause() != null || !type.getImplementsClause().isEmpty()) {
            broken(3, type, "a class or interface is built on");
        }
        collectNames(type);
        checkMembers(type);
        new Reader().scan(new TreePath(unit), null);
        checkCalls(type);
    }

    private static void collectNames(ClassTree type) {
        for (Tree member : type.getMembers()) {
            if (member instanceof MethodTree) {
                MethodTree method = (MethodTree) member;
                boolean hidden = method.getModifiers().getFlags().contains(Modifier.PRIVATE);
                (hidden ? privateNames : publicNames).add(method.getName().toString());
            }
        }
    }

    private static void checkMembers(ClassTree type) {
        int fields = 0;
        for (Tree member : type.getMembers()) {
            if (member instanceof VariableTree) {
                fields += checkField((VariableTree) member);
            } else if (member instanceof MethodTree) {
                checkMethod((MethodTree) member);
            } else if (member instanceof BlockTree) {
                broken(5, member, "an initialiser block");
            } else {
                broken(1, member, "a nested " + member.getKind());
            }
        }
        if (fields > MOST_FIELDS) {
            broken(10, type, fields + " fields");
        }
    }

    /** Answers 1 for a field that holds state, 0 for a constant. */
    private static int checkField(VariableTree field) {
        Set<Modifier> flags = field.getModifiers().getFlags();
        if (!flags.contains(Modifier.STATIC)) {
            if (!flags.contains(Modifier.PRIVATE)) {
                broken(1, field, field.getName() + " is not private");
            }
            return 1;
        }
        VariableElement element = (VariableElement) trees.getElement(trees.getPath(unit, field));
        TypeKind kind = element.asType().getKind();
        if (element.getConstantValue() == null || kind != TypeKind.INT && kind != TypeKind.LONG) {
            broken(5, field, field.getName() + " is static and no constant of int or long");
        }
        return 0;
    }

    private static void checkMethod(MethodTree method) {
        String name = method.getName().toString();
        boolean hidden = method.getModifiers().getFlags().contains(Modifier.PRIVATE);
        if (hidden && publicNames.contains(name)) {
            broken(1, method, "the private method " + name + " bears the name of a public one");
        }
        if (method.getReturnType() instanceof ArrayTypeTree) {
            broken(4, method, name + " answers an array");
        }
        if (method.getParameters().size() > MOST_PARAMETERS) {
            broken(10, method, name + " takes " + method.getParameters().size() + " parameters");
        }
        if (!method.getThrows().isEmpty() || !method.getTypeParameters().isEmpty()) {
            broken(2, method, name + " has types of its own or a throws clause");
        }
        long last = unit.getLineMap().getLineNumber(positions.getEndPosition(unit, method));
        if (last >= 0 && last - lineOf(method) + 1 > MOST_LINES) {
            broken(10, method, name + " has " + (last - lineOf(method) + 1) + " lines");
        }
    }

    /** No method may come to itself again, and the longest chain of calls is counted from the public method on. */
    private static void checkCalls(ClassTree type) {
        for (String name : calls.keySet()) {
            if (reached(name).contains(name)) {
                broken(8, type, name + " comes back to itself");
                return;
            }
        }
        for (String name : publicNames) {
            if (depth(name) > DEEPEST) {
                broken(10, type, name + " calls " + depth(name) + " deep");
            }
        }
    }

    private static Set<String> reached(String name) {
        Set<String> found = new HashSet<>();
        Set<String> edge = calls.getOrDefault(name, Set.of());
        while (found.addAll(edge)) {
            Set<String> next = new HashSet<>();
            for (String each : edge) {
                next.addAll(calls.getOrDefault(each, Set.of()));
            }
            edge = next;
        }
        return found;
    }

    private static int depth(String name) {
        int below = 0;
        for (String each : calls.getOrDefault(name, Set.of())) {
            below = Math.max(below, depth(each));
        }
        return below + 1;
    }

    /** Goes through all code of the class. */
    private static final class Reader extends TreePathScanner<Void, Void> {
        private String method = "";

        @Override
        public Void scan(Tree tree, Void nothing) {
            if (tree != null && !isMadeByCompiler(tree) && !KNOWN.contains(tree.getKind())) {
                broken(6, tree, tree.getKind() + " is not among the kinds of code that the class needs");
            }
            return super.scan(tree, nothing);
        }

        /** The compiler puts super() at the head of the constructor, with no end of its own in the text. */
        private boolean isMadeByCompiler(Tree tree) {
            return positions.getEndPosition(unit, tree) < 0;
        }

        @Override
        public Void visitMethod(MethodTree tree, Void nothing) {
            method = tree.getName().toString();
            calls.putIfAbsent(method, new TreeSet<>());
            super.visitMethod(tree, nothing);
            method = "";
            return null;
        }

        @Override
        public Void visitModifiers(ModifiersTree tree, Void nothing) {
            if (!MODIFIERS.containsAll(tree.getFlags())) {
                broken(6, getCurrentPath().getParentPath().getLeaf(), "a modifier among " + tree.getFlags());
            }
            return super.visitModifiers(tree, nothing);
        }

        @Override
        public Void visitPrimitiveType(PrimitiveTypeTree tree, Void nothing) {
            boolean answersNothing = tree.getPrimitiveTypeKind() == TypeKind.VOID;
            if (!answersNothing && !WHOLE_NUMBERS.contains(tree.getPrimitiveTypeKind())) {
                broken(2, tree, "the type " + tree);
            }
            return super.visitPrimitiveType(tree, nothing);
        }

        @Override
        public Void visitArrayType(ArrayTypeTree tree, Void nothing) {
            if (!(tree.getType() instanceof PrimitiveTypeTree)) {
                broken(2, tree, "the type " + tree);
            }
            return super.visitArrayType(tree, nothing);
        }

        @Override
        public Void visitTypeCast(TypeCastTree tree, Void nothing) {
            if (!(tree.getType() instanceof PrimitiveTypeTree)) {
                broken(6, tree, "a cast of a reference");
            }
            return super.visitTypeCast(tree, nothing);
        }

        @Override
        public Void visitIdentifier(IdentifierTree tree, Void nothing) {
            if (!isMadeByCompiler(tree) && trees.getElement(getCurrentPath()).getKind().isClass()) {
                broken(3, tree, "the class " + tree);
            }
            return super.visitIdentifier(tree, nothing);
        }

        @Override
        public Void visitMemberSelect(MemberSelectTree tree, Void nothing) {
            broken(3, tree, "a part of something: " + tree);
            return super.visitMemberSelect(tree, nothing);
        }

        @Override
        public Void visitNewArray(NewArrayTree tree, Void nothing) {
            Tree parent = getCurrentPath().getParentPath().getLeaf();
            Tree around = getCurrentPath().getParentPath().getParentPath().getLeaf();
            if (!(parent instanceof VariableTree && around instanceof ClassTree)) {
                broken(4, tree, "an array made elsewhere than in a field's initialiser");
            }
            List<? extends ExpressionTree> lengths = tree.getDimensions();
            if (tree.getInitializers() != null || lengths.size() != 1 || !isOneOrMore(lengths.get(0))) {
                broken(4, tree, "an array without one length that is a literal or a constant, 1 or more");
            }
            return super.visitNewArray(tree, nothing);
        }

        /** A literal or a constant, looked at by its value. */
        private boolean isOneOrMore(ExpressionTree number) {
            if (number instanceof LiteralTree) {
                Object value = ((LiteralTree) number).getValue();
                return value instanceof Integer && (Integer) value >= 1;
            }
            if (!(number instanceof IdentifierTree)) {
                return false;
            }
            Object element = trees.getElement(new TreePath(getCurrentPath(), number));
            Object value = element instanceof VariableElement ? ((VariableElement) element).getConstantValue() : null;
            return value instanceof Integer && (Integer) value >= 1;
        }

        @Override
        public Void visitAssignment(AssignmentTree tree, Void nothing) {
            if (isArray(tree.getVariable())) {
                broken(4, tree, "an array variable gets another array");
            }
            return super.visitAssignment(tree, nothing);
        }

        @Override
        public Void visitBinary(BinaryTree tree, Void nothing) {
            if (isArray(tree.getLeftOperand()) || isArray(tree.getRightOperand())) {
                broken(4, tree, "an array is compared");
            }
            boolean divides = tree.getKind() == Tree.Kind.DIVIDE || tree.getKind() == Tree.Kind.REMAINDER;
            if (divides && !isOneOrMore(tree.getRightOperand())) {
                broken(7, tree, "a divisor that is not plainly 1 or more");
            }
            return super.visitBinary(tree, nothing);
        }

        private boolean isArray(ExpressionTree tree) {
            return trees.getTypeMirror(new TreePath(getCurrentPath(), tree)).getKind() == TypeKind.ARRAY;
        }

        @Override
        public Void visitForLoop(ForLoopTree tree, Void nothing) {
            boolean counts = !tree.getInitializer().isEmpty() && !tree.getUpdate().isEmpty()
                && tree.getCondition() != null && COMPARISONS.contains(tree.getCondition().getKind());
            if (!counts || setsItsCounter(tree)) {
                broken(8, tree, "a loop that does not plainly count against a bound");
            }
            return super.visitForLoop(tree, nothing);
        }

        /** A counter that the loop's own statements set could go back for ever. */
        private boolean setsItsCounter(ForLoopTree loop) {
            Set<String> counters = new TreeSet<>();
            for (Tree start : loop.getInitializer()) {
                if (start instanceof VariableTree) {
                    counters.add(((VariableTree) start).getName().toString());
                }
            }
            Writes writes = new Writes();
            writes.scan(loop.getStatement(), null);
            writes.names.retainAll(counters);
            return counters.isEmpty() || !writes.names.isEmpty();
        }

        @Override
        public Void visitMethodInvocation(MethodInvocationTree tree, Void nothing) {
            if (isMadeByCompiler(tree)) {
                return null;
            }
            String name = tree.getMethodSelect().toString();
            if (!privateNames.contains(name) && !publicNames.contains(name)) {
                broken(3, tree, "the call of " + name + ", no method of the class");
            }
            calls.computeIfAbsent(method, key -> new TreeSet<>()).add(name);
            Calls inside = new Calls();
            inside.scan(tree.getArguments(), null);
            if (inside.count > 0) {
                broken(10, tree, "a call inside the arguments of " + name);
            }
            return super.visitMethodInvocation(tree, nothing);
        }
    }

    private static final class Calls extends TreeScanner<Void, Void> {
        private int count = 0;

        @Override
        public Void visitMethodInvocation(MethodInvocationTree tree, Void nothing) {
            count++;
            return super.visitMethodInvocation(tree, nothing);
        }
    }

    /** The plain variables that some code sets. */
    private static final class Writes extends TreeScanner<Void, Void> {
        private final Set<String> names = new TreeSet<>();

        private void add(Tree variable) {
            if (!(variable instanceof ArrayAccessTree)) {
                names.add(variable.toString());
            }
        }

        @Override
        public Void visitAssignment(AssignmentTree tree, Void nothing) {
            add(tree.getVariable());
            return super.visitAssignment(tree, nothing);
        }

        @Override
        public Void visitCompoundAssignment(CompoundAssignmentTree tree, Void nothing) {
            add(tree.getVariable());
            return super.visitCompoundAssignment(tree, nothing);
        }

        @Override
        public Void visitUnary(UnaryTree tree, Void nothing) {
            if (STEPS.contains(tree.getKind())) {
                add(tree.getExpression());
            }
            return super.visitUnary(tree, nothing);
        }
    }
}
