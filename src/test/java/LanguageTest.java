import com.sun.source.tree.AnnotationTree;
import com.sun.source.tree.ArrayTypeTree;
import com.sun.source.tree.AssignmentTree;
import com.sun.source.tree.BinaryTree;
import com.sun.source.tree.BlockTree;
import com.sun.source.tree.ClassTree;
import com.sun.source.tree.CompilationUnitTree;
import com.sun.source.tree.CompoundAssignmentTree;
import com.sun.source.tree.ExpressionStatementTree;
import com.sun.source.tree.ExpressionTree;
import com.sun.source.tree.ForLoopTree;
import com.sun.source.tree.LiteralTree;
import com.sun.source.tree.MethodInvocationTree;
import com.sun.source.tree.MethodTree;
import com.sun.source.tree.NewArrayTree;
import com.sun.source.tree.PrimitiveTypeTree;
import com.sun.source.tree.Tree;
import com.sun.source.tree.TypeCastTree;
import com.sun.source.tree.UnaryTree;
import com.sun.source.tree.VariableTree;
import com.sun.source.util.JavacTask;
import com.sun.source.util.TreeScanner;
import java.io.File;
import java.io.IOException;
import java.util.HashMap;
import java.util.HashSet;
import java.util.Map;
import java.util.Set;
import java.util.TreeSet;
import javax.lang.model.element.Modifier;
import javax.lang.model.type.TypeKind;
import javax.tools.JavaCompiler;
import javax.tools.StandardJavaFileManager;
import javax.tools.ToolProvider;

/**
 * The program's text keeps to the rules of LANGUAGE.md that its syntax shows: 1 to 6, 8 and 10. (FaceTest has the rest
 * of rule 1, BoundaryTest has rule 7; 9 forbids nothing, and 11 needs a library, which 3 forbids.) Where it makes the
 * test shorter, it asks for more than the rules: arrays are made for final fields alone, no dot stands in an
 * expression, and every loop is a for loop that counts.
 */
public final class LanguageTest extends TreeScanner<Void, Void> {
    private static final String PROGRAM = "src/main/java/ChangedBlocks.java";

    private static final Set<TypeKind> NUMBERS = Set.of(
            TypeKind.INT, TypeKind.LONG, TypeKind.SHORT, TypeKind.BYTE, TypeKind.CHAR, TypeKind.BOOLEAN);
    private static final Set<Tree.Kind> LITERALS = Set.of(
            Tree.Kind.INT_LITERAL, Tree.Kind.LONG_LITERAL, Tree.Kind.CHAR_LITERAL, Tree.Kind.BOOLEAN_LITERAL);
    private static final Map<Tree.Kind, Integer> RULE_AGAINST = Map.ofEntries(
            Map.entry(Tree.Kind.MEMBER_SELECT, 3), Map.entry(Tree.Kind.NEW_CLASS, 4), Map.entry(Tree.Kind.THROW, 6),
            Map.entry(Tree.Kind.TRY, 6), Map.entry(Tree.Kind.SYNCHRONIZED, 6), Map.entry(Tree.Kind.ASSERT, 6),
            Map.entry(Tree.Kind.INSTANCE_OF, 6), Map.entry(Tree.Kind.LAMBDA_EXPRESSION, 6),
            Map.entry(Tree.Kind.MEMBER_REFERENCE, 6), Map.entry(Tree.Kind.WHILE_LOOP, 8),
            Map.entry(Tree.Kind.DO_WHILE_LOOP, 8), Map.entry(Tree.Kind.ENHANCED_FOR_LOOP, 8));

    private static final int MOST_PARAMETERS = 7;
    private static final int MOST_LINES = 60;
    private static final int MOST_CALLS_DEEP = 6;
    private static final int MOST_FIELDS = 40;

    private final Map<String, Set<String>> callsOf = new HashMap<>();
    private final Set<String> arrays = new HashSet<>();
    private final Set<String> constants = new HashSet<>();
    private String method = "";
    private int wrong = 0;

    public static void main(String[] args) throws IOException {
        LanguageTest test = new LanguageTest();
        test.lookAtFile(parsed());
        System.out.println(test.wrong == 0 ? "the text keeps to the rules" : test.wrong + " places are outside the rules");
        if (test.wrong != 0) {
            System.exit(1);
        }
    }

    private static CompilationUnitTree parsed() throws IOException {
        JavaCompiler compiler = ToolProvider.getSystemJavaCompiler();
        try (StandardJavaFileManager files = compiler.getStandardFileManager(null, null, null)) {
            JavacTask task = (JavacTask) compiler.getTask(
                    null, files, null, null, null, files.getJavaFileObjects(new File(PROGRAM)));
            return task.parse().iterator().next();
        }
    }

    private void lookAtFile(CompilationUnitTree file) {
        rule(1, file.getPackageName() == null, "a package line");
        rule(3, file.getImports().isEmpty(), "an import");
        rule(1, file.getTypeDecls().size() == 1, "more than one type");
        ClassTree program = (ClassTree) file.getTypeDecls().get(0);
        rule(1, program.getKind() == Tree.Kind.CLASS, "not a class");
        rule(3, program.getExtendsClause() == null && program.getImplementsClause().isEmpty(), "another type is built on");
        scan(program.getModifiers(), null);
        gatherNames(program);
        lookAtFields(program);
        for (Tree member : program.getMembers()) {
            lookAtMember(member);
        }
        for (String name : callsOf.keySet()) {
            lookAtDepth(name, name, 1);
        }
    }

    private void gatherNames(ClassTree program) {
        Set<String> publicNames = new HashSet<>();
        Set<String> privateNames = new TreeSet<>();
        for (Tree member : program.getMembers()) {
            if (member instanceof MethodTree) {
                MethodTree m = (MethodTree) member;
                boolean hidden = m.getModifiers().getFlags().contains(Modifier.PRIVATE);
                (hidden ? privateNames : publicNames).add(m.getName().toString());
                callsOf.put(m.getName().toString(), new HashSet<>());
            }
        }
        privateNames.retainAll(publicNames);
        rule(1, privateNames.isEmpty(), "private methods named like public ones: " + privateNames);
    }

    private void lookAtFields(ClassTree program) {
        int fields = 0;
        for (Tree member : program.getMembers()) {
            if (member instanceof VariableTree) {
                VariableTree field = (VariableTree) member;
                boolean shared = field.getModifiers().getFlags().contains(Modifier.STATIC);
                fields += shared ? 0 : 1;
                if (shared) {
                    lookAtConstant(field);
                } else {
                    lookAtField(field);
                }
            }
        }
        rule(10, fields <= MOST_FIELDS, fields + " fields");
    }

    private void lookAtConstant(VariableTree field) {
        boolean whole = isNumber(field.getType(), Set.of(TypeKind.INT, TypeKind.LONG));
        boolean fixed = field.getModifiers().getFlags().contains(Modifier.FINAL) && field.getInitializer() != null;
        Set<String> called = new HashSet<>();
        gatherCalls(field.getInitializer(), called);
        rule(5, whole && fixed && called.isEmpty(), field.toString());
        constants.add(field.getName().toString());
        scan(field, null);
    }

    private void lookAtField(VariableTree field) {
        scan(field.getModifiers(), null);
        lookAtType(field.getType());
        if (field.getType() instanceof ArrayTypeTree) {
            arrays.add(field.getName().toString());
            boolean fixed = field.getModifiers().getFlags().contains(Modifier.FINAL);
            rule(4, fixed && isFixedArray(field.getInitializer()), field.toString());
        } else {
            scan(field.getInitializer(), null);
        }
    }

    private boolean isFixedArray(ExpressionTree made) {
        if (!(made instanceof NewArrayTree)) {
            return false;
        }
        NewArrayTree array = (NewArrayTree) made;
        if (array.getInitializers() != null || array.getDimensions().size() != 1) {
            return false;
        }
        ExpressionTree length = array.getDimensions().get(0);
        return length.getKind() == Tree.Kind.INT_LITERAL || constants.contains(length.toString());
    }

    private void lookAtMember(Tree member) {
        if (member instanceof MethodTree) {
            scan(member, null);
        } else if (member instanceof BlockTree) {
            rule(5, false, "an initialiser block");
        } else {
            rule(1, member instanceof VariableTree, "a nested type");
        }
    }

    private void lookAtType(Tree type) {
        Tree cell = type instanceof ArrayTypeTree ? ((ArrayTypeTree) type).getType() : type;
        rule(2, isNumber(cell, NUMBERS), "the type " + type);
    }

    private static boolean isNumber(Tree type, Set<TypeKind> kinds) {
        return type instanceof PrimitiveTypeTree && kinds.contains(((PrimitiveTypeTree) type).getPrimitiveTypeKind());
    }

    private void lookAtDepth(String first, String name, int deep) {
        if (deep > MOST_CALLS_DEEP) {
            rule(10, false, "calls more than six deep (8, if they go round in a ring) from " + first);
            return;
        }
        for (String called : callsOf.get(name)) {
            rule(8, !called.equals(first), first + " calls itself");
            lookAtDepth(first, called, deep + 1);
        }
    }

    @Override
    public Void scan(Tree tree, Void none) {
        if (tree != null && RULE_AGAINST.containsKey(tree.getKind())) {
            rule(RULE_AGAINST.get(tree.getKind()), false, tree.toString());
        }
        return super.scan(tree, none);
    }

    @Override
    public Void visitClass(ClassTree nested, Void none) {
        rule(1, false, "a nested type");
        return super.visitClass(nested, none);
    }

    @Override
    public Void visitAnnotation(AnnotationTree annotation, Void none) {
        rule(3, false, annotation.toString());
        return super.visitAnnotation(annotation, none);
    }

    @Override
    public Void visitMethod(MethodTree m, Void none) {
        method = m.getName().toString();
        Set<Modifier> flags = m.getModifiers().getFlags();
        rule(6, !flags.contains(Modifier.SYNCHRONIZED), "a synchronized method");
        rule(4, !(m.getReturnType() instanceof ArrayTypeTree), "an array as the answer");
        rule(6, m.getThrows().isEmpty(), "throws");
        rule(10, m.getParameters().size() <= MOST_PARAMETERS, m.getParameters().size() + " parameters");
        int lines = m.toString().trim().split("\n").length;
        rule(10, lines <= MOST_LINES, lines + " lines");
        boolean answers = m.getReturnType() != null && !m.getReturnType().toString().equals("void");
        if (answers) {
            lookAtType(m.getReturnType());
        }
        super.visitMethod(m, none);
        method = "";
        return null;
    }

    @Override
    public Void visitVariable(VariableTree variable, Void none) {
        lookAtType(variable.getType());
        if (variable.getType() instanceof ArrayTypeTree) {
            arrays.add(variable.getName().toString());
        }
        return super.visitVariable(variable, none);
    }

    @Override
    public Void visitLiteral(LiteralTree literal, Void none) {
        rule(2, LITERALS.contains(literal.getKind()), "the literal " + literal);
        return null;
    }

    @Override
    public Void visitTypeCast(TypeCastTree cast, Void none) {
        rule(6, isNumber(cast.getType(), NUMBERS), cast.toString());
        return super.visitTypeCast(cast, none);
    }

    @Override
    public Void visitNewArray(NewArrayTree array, Void none) {
        rule(4, false, array.toString());
        return super.visitNewArray(array, none);
    }

    @Override
    public Void visitAssignment(AssignmentTree assignment, Void none) {
        rule(4, !arrays.contains(assignment.getVariable().toString()), assignment.toString());
        return super.visitAssignment(assignment, none);
    }

    @Override
    public Void visitBinary(BinaryTree binary, Void none) {
        if (binary.getKind() == Tree.Kind.EQUAL_TO || binary.getKind() == Tree.Kind.NOT_EQUAL_TO) {
            boolean arrayLeft = arrays.contains(binary.getLeftOperand().toString());
            boolean arrayRight = arrays.contains(binary.getRightOperand().toString());
            rule(4, !arrayLeft && !arrayRight, binary.toString());
        }
        return super.visitBinary(binary, none);
    }

    @Override
    public Void visitMethodInvocation(MethodInvocationTree call, Void none) {
        String called = call.getMethodSelect().toString();
        rule(3, callsOf.containsKey(called), "a call of " + called + ", which is no method of the program");
        if (callsOf.containsKey(called) && callsOf.containsKey(method)) {
            callsOf.get(method).add(called);
        }
        Set<String> inside = new TreeSet<>();
        for (ExpressionTree argument : call.getArguments()) {
            gatherCalls(argument, inside);
        }
        rule(10, inside.isEmpty(), "calls inside the arguments of " + called + ": " + inside);
        return super.visitMethodInvocation(call, none);
    }

    private static void gatherCalls(Tree tree, Set<String> names) {
        new TreeScanner<Void, Void>() {
            @Override
            public Void visitMethodInvocation(MethodInvocationTree call, Void none) {
                names.add(call.getMethodSelect().toString());
                return super.visitMethodInvocation(call, none);
            }
        }.scan(tree, null);
    }

    @Override
    public Void visitForLoop(ForLoopTree loop, Void none) {
        rule(8, counts(loop), "a loop whose end isn't seen: " + loop);
        return super.visitForLoop(loop, none);
    }

    private static boolean counts(ForLoopTree loop) {
        boolean plain = loop.getInitializer().size() == 1 && loop.getInitializer().get(0) instanceof VariableTree
                && loop.getCondition() instanceof BinaryTree && loop.getUpdate().size() == 1;
        if (!plain) {
            return false;
        }
        String counter = ((VariableTree) loop.getInitializer().get(0)).getName().toString();
        BinaryTree condition = (BinaryTree) loop.getCondition();
        String bound = condition.getRightOperand().toString();
        ExpressionStatementTree update = loop.getUpdate().get(0);
        Tree.Kind step = update.getExpression().getKind();
        boolean up = condition.getKind() == Tree.Kind.LESS_THAN && step == Tree.Kind.POSTFIX_INCREMENT;
        boolean down = condition.getKind() == Tree.Kind.GREATER_THAN_EQUAL && step == Tree.Kind.POSTFIX_DECREMENT
                && bound.equals("0");
        boolean named = condition.getLeftOperand().toString().equals(counter) && update.toString().startsWith(counter);
        Set<String> given = new HashSet<>();
        gatherAssigned(loop.getStatement(), given);
        return (up || down) && named && bound.matches("\\w+") && !given.contains(counter) && !given.contains(bound);
    }

    private static void gatherAssigned(Tree tree, Set<String> names) {
        new TreeScanner<Void, Void>() {
            @Override
            public Void visitAssignment(AssignmentTree assignment, Void none) {
                names.add(assignment.getVariable().toString());
                return super.visitAssignment(assignment, none);
            }

            @Override
            public Void visitCompoundAssignment(CompoundAssignmentTree assignment, Void none) {
                names.add(assignment.getVariable().toString());
                return super.visitCompoundAssignment(assignment, none);
            }

            @Override
            public Void visitUnary(UnaryTree unary, Void none) {
                names.add(unary.getExpression().toString());
                return super.visitUnary(unary, none);
            }
        }.scan(tree, null);
    }

    private void rule(int number, boolean kept, String what) {
        if (!kept) {
            wrong++;
            System.out.println("rule " + number + (method.isEmpty() ? "" : ", in " + method) + ": " + what);
        }
    }
}
