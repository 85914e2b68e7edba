import com.sun.source.tree.ArrayTypeTree;
import com.sun.source.tree.AssignmentTree;
import com.sun.source.tree.BinaryTree;
import com.sun.source.tree.ClassTree;
import com.sun.source.tree.CompilationUnitTree;
import com.sun.source.tree.CompoundAssignmentTree;
import com.sun.source.tree.ExpressionStatementTree;
import com.sun.source.tree.ExpressionTree;
import com.sun.source.tree.ForLoopTree;
import com.sun.source.tree.IdentifierTree;
import com.sun.source.tree.LiteralTree;
import com.sun.source.tree.MethodInvocationTree;
import com.sun.source.tree.MethodTree;
import com.sun.source.tree.NewArrayTree;
import com.sun.source.tree.PrimitiveTypeTree;
import com.sun.source.tree.StatementTree;
import com.sun.source.tree.Tree;
import com.sun.source.tree.Tree.Kind;
import com.sun.source.tree.UnaryTree;
import com.sun.source.tree.VariableTree;
import com.sun.source.util.JavacTask;
import com.sun.source.util.SourcePositions;
import com.sun.source.util.TreeScanner;
import com.sun.source.util.Trees;
import java.io.File;
import java.io.IOException;
import java.util.ArrayDeque;
import java.util.Deque;
import java.util.EnumSet;
import java.util.HashMap;
import java.util.HashSet;
import java.util.List;
import java.util.Map;
import java.util.Set;
import java.util.TreeSet;
import javax.lang.model.element.Modifier;
import javax.lang.model.type.TypeKind;
import javax.tools.JavaCompiler;
import javax.tools.StandardJavaFileManager;
import javax.tools.ToolProvider;

/**
 * The source of the class keeps to LANGUAGE.md, read as a syntax tree. Where a rule leaves a choice,
 * the test asks for the form that the class has: arrays in the initialisers of final fields, and
 * counting for loops alone. Rule 7 can't be seen from the tree; the other tests call with all kinds of
 * arguments.
 */
public final class LanguageTest {
    private static final int MOST_PARAMETERS = 7;
    private static final int MOST_LINES = 60;
    private static final int MOST_DEEP = 6;
    private static final int MOST_FIELDS = 40;

    private static final Set<TypeKind> TYPES = EnumSet.of(TypeKind.INT, TypeKind.LONG, TypeKind.SHORT,
            TypeKind.BYTE, TypeKind.CHAR, TypeKind.BOOLEAN);

    // What the class is made of, beside operators. Not all that is missing here breaks a rule (a cast
    // between number types doesn't): a form that the class comes to need is added with its own check.
    private static final Set<Kind> FORMS = EnumSet.of(
            Kind.MODIFIERS, Kind.VARIABLE, Kind.METHOD, Kind.PRIMITIVE_TYPE, Kind.ARRAY_TYPE, Kind.NEW_ARRAY,
            Kind.BLOCK, Kind.IF, Kind.FOR_LOOP, Kind.BREAK, Kind.CONTINUE, Kind.RETURN, Kind.EXPRESSION_STATEMENT,
            Kind.METHOD_INVOCATION, Kind.IDENTIFIER, Kind.ARRAY_ACCESS, Kind.PARENTHESIZED,
            Kind.CONDITIONAL_EXPRESSION, Kind.INT_LITERAL, Kind.LONG_LITERAL, Kind.BOOLEAN_LITERAL);

    private static int wrong = 0;

    private final CompilationUnitTree file;
    private final SourcePositions positions;
    private final ClassTree puzzle;
    private final Set<String> constants = new HashSet<>();
    private final Set<String> fields = new HashSet<>();
    private final Set<String> arrays = new HashSet<>();
    private final Set<String> publicMethods = new HashSet<>();
    private final Set<String> privateMethods = new HashSet<>();
    private final Map<String, Set<String>> calls = new HashMap<>();

    private LanguageTest(CompilationUnitTree file, SourcePositions positions) {
        this.file = file;
        this.positions = positions;
        this.puzzle = (ClassTree) file.getTypeDecls().get(0);
    }

    private long line(long position) {
        return file.getLineMap().getLineNumber(position);
    }

    private long firstLine(Tree tree) {
        return line(positions.getStartPosition(file, tree));
    }

    private long lastLine(Tree tree) {
        return line(positions.getEndPosition(file, tree));
    }

    private void rule(int number, boolean kept, Tree where, String what) {
        if (!kept) {
            wrong++;
            System.out.println("line " + firstLine(where) + ", rule " + number + ": " + what);
        }
    }

    private static boolean isNumber(Tree type) {
        return type instanceof PrimitiveTypeTree && TYPES.contains(((PrimitiveTypeTree) type).getPrimitiveTypeKind());
    }

    private static boolean isArray(Tree type) {
        return type instanceof ArrayTypeTree && isNumber(((ArrayTypeTree) type).getType());
    }

    private static boolean isVoid(Tree type) {
        return type instanceof PrimitiveTypeTree
                && ((PrimitiveTypeTree) type).getPrimitiveTypeKind() == TypeKind.VOID;
    }

    private static boolean isConstructor(MethodTree method) {
        return method.getReturnType() == null;
    }

    private static String nameOf(ExpressionTree tree) {
        return tree instanceof IdentifierTree ? ((IdentifierTree) tree).getName().toString() : "";
    }

    // ---- The class and its members

    private void checkClass() {
        rule(1, file.getPackage() == null, puzzle, "a package line");
        rule(3, file.getImports().isEmpty(), puzzle, "an import");
        rule(1, file.getTypeDecls().size() == 1, puzzle, "more than one class");
        Set<Modifier> modifiers = puzzle.getModifiers().getFlags();
        rule(1, puzzle.getKind() == Kind.CLASS && puzzle.getSimpleName().contentEquals("SlitherLoop")
                && modifiers.equals(EnumSet.of(Modifier.PUBLIC, Modifier.FINAL)), puzzle, "not the class that is due");
        rule(1, puzzle.getExtendsClause() == null && puzzle.getImplementsClause().isEmpty()
                && puzzle.getTypeParameters().isEmpty(), puzzle, "more than a plain class");
    }

    private void nameMembers() {
        for (Tree member : puzzle.getMembers()) {
            if (member instanceof VariableTree) {
                VariableTree field = (VariableTree) member;
                boolean constant = field.getModifiers().getFlags().contains(Modifier.STATIC);
                (constant ? constants : fields).add(field.getName().toString());
            } else if (member instanceof MethodTree) {
                MethodTree method = (MethodTree) member;
                boolean hidden = method.getModifiers().getFlags().contains(Modifier.PRIVATE);
                (hidden ? privateMethods : publicMethods).add(method.getName().toString());
            }
        }
        Set<String> both = new TreeSet<>(privateMethods);
        both.retainAll(publicMethods);
        rule(1, both.isEmpty(), puzzle, "private methods with the name of a public one: " + both);
    }

    private void checkMembers() {
        for (Tree member : puzzle.getMembers()) {
            if (member instanceof VariableTree) {
                checkField((VariableTree) member);
            } else if (member instanceof MethodTree) {
                checkMethod((MethodTree) member);
            } else {
                rule(member instanceof ClassTree ? 1 : 5, false, member, "a member that is no field and no method");
            }
        }
        rule(10, fields.size() <= MOST_FIELDS, puzzle, fields.size() + " fields");
    }

    private void checkField(VariableTree field) {
        Set<Modifier> modifiers = field.getModifiers().getFlags();
        ExpressionTree value = field.getInitializer();
        if (constants.contains(field.getName().toString())) {
            String type = field.getType().toString();
            rule(5, type.equals("int") || type.equals("long"), field, "a static field of type " + type);
            rule(5, modifiers.contains(Modifier.FINAL) && value != null, field, "a static field that is no constant");
            checkConstant(value);
        } else if (isArray(field.getType())) {
            arrays.add(field.getName().toString());
            rule(4, modifiers.contains(Modifier.FINAL), field, "an array field that a method could assign to");
            rule(4, value instanceof NewArrayTree, field, "an array field that doesn't make its array");
        }
    }

    private void checkConstant(ExpressionTree value) {
        new TreeScanner<Void, Void>() {
            @Override
            public Void visitIdentifier(IdentifierTree tree, Void unused) {
                rule(5, constants.contains(tree.getName().toString()), tree, tree + " is no constant");
                return null;
            }

            @Override
            public Void visitMethodInvocation(MethodInvocationTree tree, Void unused) {
                rule(5, false, tree, "a call in a constant");
                return null;
            }
        }.scan(value, null);
    }

    private void checkMethod(MethodTree method) {
        String name = method.getName().toString();
        rule(10, method.getParameters().size() <= MOST_PARAMETERS, method, name + " has too many parameters");
        long lines = lastLine(method) - firstLine(method) + 1;
        rule(10, lines <= MOST_LINES, method, name + " has " + lines + " lines");
        Tree type = method.getReturnType();
        rule(4, !(type instanceof ArrayTypeTree), method, name + " answers an array");
        rule(2, isConstructor(method) || isNumber(type) || isVoid(type), method, name + " answers another type");
        rule(6, method.getThrows().isEmpty(), method, name + " throws");
        Set<Modifier> allowed = EnumSet.of(Modifier.PUBLIC, Modifier.PRIVATE, Modifier.STATIC);
        rule(6, allowed.containsAll(method.getModifiers().getFlags()), method, name + " has another modifier");
        Set<String> called = calls.computeIfAbsent(name, key -> new TreeSet<>());
        new TreeScanner<Void, Void>() {
            @Override
            public Void visitMethodInvocation(MethodInvocationTree tree, Void unused) {
                called.add(nameOf(tree.getMethodSelect()));
                return super.visitMethodInvocation(tree, null);
            }
        }.scan(method.getBody(), null);
    }

    // ---- What the members are made of

    private void checkForms() {
        for (Tree member : puzzle.getMembers()) {
            new Forms().scan(member, null);
        }
    }

    private final class Forms extends TreeScanner<Void, Void> {
        private final Deque<Tree> around = new ArrayDeque<>();

        @Override
        public Void scan(Tree tree, Void unused) {
            if (tree == null) {
                return null;
            }
            Kind kind = tree.getKind();
            boolean operator = tree instanceof BinaryTree || tree instanceof UnaryTree
                    || tree instanceof AssignmentTree || tree instanceof CompoundAssignmentTree;
            rule(6, operator || FORMS.contains(kind), tree,
                    "a form that this test doesn't let by, " + kind + ": " + tree);
            around.push(tree);
            super.scan(tree, null);
            around.pop();
            return null;
        }

        @Override
        public Void visitVariable(VariableTree tree, Void unused) {
            rule(2, isNumber(tree.getType()) || isArray(tree.getType()), tree, "a variable of type " + tree.getType());
            return super.visitVariable(tree, null);
        }

        @Override
        public Void visitNewArray(NewArrayTree tree, Void unused) {
            rule(4, around.size() == 2, tree, "an array that is not made in a field's initialiser");
            boolean plain = tree.getDimensions().size() == 1 && tree.getInitializers() == null;
            rule(4, plain, tree, "an array without one length");
            if (plain) {
                ExpressionTree length = tree.getDimensions().get(0);
                rule(4, length instanceof LiteralTree || constants.contains(nameOf(length)), tree,
                        "a length that is no constant");
            }
            return super.visitNewArray(tree, null);
        }

        @Override
        public Void visitMethodInvocation(MethodInvocationTree tree, Void unused) {
            String name = nameOf(tree.getMethodSelect());
            rule(3, privateMethods.contains(name) || publicMethods.contains(name), tree,
                    tree.getMethodSelect() + " is no method of the class");
            for (Tree outer : around) {
                boolean argument = outer != tree && outer instanceof MethodInvocationTree;
                rule(10, !argument, tree, "a call inside the arguments of another call");
            }
            return super.visitMethodInvocation(tree, null);
        }

        @Override
        public Void visitBinary(BinaryTree tree, Void unused) {
            rule(4, !arrays.contains(nameOf(tree.getLeftOperand())) && !arrays.contains(nameOf(tree.getRightOperand())),
                    tree, "an array that is compared");
            return super.visitBinary(tree, null);
        }

        @Override
        public Void visitForLoop(ForLoopTree tree, Void unused) {
            rule(8, counts(tree), tree, "a loop that doesn't count up to a bound");
            return super.visitForLoop(tree, null);
        }
    }

    // ---- Loops and calls

    /** for (int i = ..; i < a name; i++), where the body itself changes neither i nor the bound. */
    private boolean counts(ForLoopTree loop) {
        List<? extends StatementTree> first = loop.getInitializer();
        List<? extends ExpressionStatementTree> update = loop.getUpdate();
        if (first.size() != 1 || !(first.get(0) instanceof VariableTree) || update.size() != 1
                || !(loop.getCondition() instanceof BinaryTree)) {
            return false;
        }
        String counter = ((VariableTree) first.get(0)).getName().toString();
        BinaryTree condition = (BinaryTree) loop.getCondition();
        String bound = nameOf(condition.getRightOperand());
        return condition.getKind() == Kind.LESS_THAN
                && nameOf(condition.getLeftOperand()).equals(counter)
                && !bound.isEmpty()
                && update.get(0).getExpression().toString().equals(counter + "++")
                && !changes(loop.getStatement(), counter)
                && !changes(loop.getStatement(), bound);
    }

    private static boolean changes(Tree body, String name) {
        boolean[] found = {false};
        new TreeScanner<Void, Void>() {
            @Override
            public Void visitAssignment(AssignmentTree tree, Void unused) {
                found[0] |= nameOf(tree.getVariable()).equals(name);
                return super.visitAssignment(tree, null);
            }

            @Override
            public Void visitCompoundAssignment(CompoundAssignmentTree tree, Void unused) {
                found[0] |= nameOf(tree.getVariable()).equals(name);
                return super.visitCompoundAssignment(tree, null);
            }

            @Override
            public Void visitUnary(UnaryTree tree, Void unused) {
                boolean step = EnumSet.of(Kind.PREFIX_INCREMENT, Kind.PREFIX_DECREMENT, Kind.POSTFIX_INCREMENT,
                        Kind.POSTFIX_DECREMENT).contains(tree.getKind());
                found[0] |= step && nameOf(tree.getExpression()).equals(name);
                return super.visitUnary(tree, null);
            }
        }.scan(body, null);
        return found[0];
    }

    /** How many methods the longest chain of calls from this one has; it is cut off behind the limit. */
    private int depth(String method, int limit) {
        int deepest = 0;
        if (limit > 0) {
            for (String called : calls.getOrDefault(method, Set.of())) {
                deepest = Math.max(deepest, depth(called, limit - 1));
            }
        }
        return deepest + 1;
    }

    /** Calls that go round are as deep as one likes, so rule 10 has no recursion either. */
    private void checkCalls() {
        for (String method : new TreeSet<>(calls.keySet())) {
            rule(10, depth(method, MOST_DEEP) <= MOST_DEEP, puzzle,
                    "the calls from " + method + " go round (rule 8) or more than " + MOST_DEEP + " deep");
        }
    }

    public static void main(String[] args) throws IOException {
        JavaCompiler compiler = ToolProvider.getSystemJavaCompiler();
        try (StandardJavaFileManager files = compiler.getStandardFileManager(null, null, null)) {
            JavacTask task = (JavacTask) compiler.getTask(null, files, null, null, null,
                    files.getJavaFileObjects(new File("src/main/java/SlitherLoop.java")));
            CompilationUnitTree file = task.parse().iterator().next();
            LanguageTest test = new LanguageTest(file, Trees.instance(task).getSourcePositions());
            test.checkClass();
            test.nameMembers();
            test.checkMembers();
            test.checkForms();
            test.checkCalls();
        }
        System.out.println(wrong == 0 ? "the form is as due" : wrong + " places are not in the form that is due");
        if (wrong != 0) {
            System.exit(1);
        }
    }
}
