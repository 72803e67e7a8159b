import com.sun.source.tree.ArrayAccessTree;
import com.sun.source.tree.AssignmentTree;
import com.sun.source.tree.BinaryTree;
import com.sun.source.tree.CaseTree;
import com.sun.source.tree.ClassTree;
import com.sun.source.tree.CompilationUnitTree;
import com.sun.source.tree.CompoundAssignmentTree;
import com.sun.source.tree.ExpressionTree;
import com.sun.source.tree.ForLoopTree;
import com.sun.source.tree.MethodInvocationTree;
import com.sun.source.tree.MethodTree;
import com.sun.source.tree.NewArrayTree;
import com.sun.source.tree.NewClassTree;
import com.sun.source.tree.ThrowTree;
import com.sun.source.tree.Tree;
import com.sun.source.tree.UnaryTree;
import com.sun.source.tree.VariableTree;
import com.sun.source.tree.WhileLoopTree;
import com.sun.source.util.TreePath;
import com.sun.source.util.TreePathScanner;
import java.io.IOException;
import java.nio.file.Files;
import java.nio.file.Path;
import java.util.HashSet;
import java.util.Set;
import javax.lang.model.element.Element;
import javax.lang.model.element.Modifier;
import javax.lang.model.element.VariableElement;

/**
 * Rules of ../shared/LANGUAGE.md, seen in the program as the compiler reads it; its path is the argument. What the
 * program does not use is not in the lists here: who needs more of it looks at the rules first.
 */
public final class LanguageTest extends TreePathScanner<Void, Void> {
    /** Rules 2, 3, 6 and 10: no lambdas, casts, texts, doubles, catches, and so on. */
    private static final Set<String> KINDS = Set.of("AND", "AND_ASSIGNMENT", "ARRAY_ACCESS", "ARRAY_TYPE", "ASSIGNMENT",
            "BITWISE_COMPLEMENT", "BLOCK", "BOOLEAN_LITERAL", "BREAK", "CASE", "CLASS", "COMPILATION_UNIT",
            "CONDITIONAL_AND", "CONDITIONAL_EXPRESSION", "CONDITIONAL_OR", "CONTINUE", "DIVIDE", "EQUAL_TO",
            "EXPRESSION_STATEMENT", "FOR_LOOP", "GREATER_THAN", "GREATER_THAN_EQUAL", "IDENTIFIER", "IF", "INT_LITERAL",
            "LEFT_SHIFT", "LESS_THAN", "LESS_THAN_EQUAL", "LOGICAL_COMPLEMENT", "MEMBER_SELECT", "METHOD",
            "METHOD_INVOCATION", "MINUS", "MODIFIERS", "MULTIPLY", "NEW_ARRAY", "NEW_CLASS", "NOT_EQUAL_TO",
            "NULL_LITERAL", "OR_ASSIGNMENT", "PARENTHESIZED", "PLUS", "PLUS_ASSIGNMENT", "POSTFIX_DECREMENT",
            "POSTFIX_INCREMENT", "PRIMITIVE_TYPE", "RETURN", "RIGHT_SHIFT", "SWITCH", "THROW", "UNARY_MINUS",
            "VARIABLE", "WHILE_LOOP", "XOR");
    private static final Set<String> LIBRARY = Set.of("java.lang.Math.max(int,int)", "java.lang.Math.min(int,int)",
            "java.lang.System.arraycopy(java.lang.Object,int,java.lang.Object,int,int)", "java.lang.Object.Object()");
    private static final Set<String> EXCEPTIONS = Set.of("IllegalStateException", "IllegalArgumentException",
            "IndexOutOfBoundsException");
    private static final Set<String> PRIMITIVES = Set.of("int", "boolean", "void");
    private static final int MOST_CLASSES = 12;
    private static final int MOST_FIELDS = 20;
    private static final int MOST_PARAMETERS = 7;
    private static final int MOST_LINES = 60;

    private final Source source;
    private final Set<String> ownTypes = new HashSet<>();
    private final Set<String> face = new HashSet<>();
    private int classes = 0;

    private LanguageTest(Source source) {
        this.source = source;
    }

    public static void main(String[] args) throws IOException {
        String path = args.length > 0 ? args[0] : Source.PATH;
        LanguageTest test = new LanguageTest(new Source(path));
        test.collectNames();
        test.scan(test.source.unit, null);
        Checks.holds("rule 11: some twelve classes", test.classes > 0 && test.classes <= MOST_CLASSES);
        for (char sign : Files.readString(Path.of(path)).toCharArray()) {
            if (sign < 1 || sign > 127) {
                Checks.tell("rule 4: a sign beyond 127: " + (int) sign);
            }
        }
        Checks.end("LanguageTest");
    }

    private void collectNames() {
        for (Tree outer : source.unit.getTypeDecls()) {
            ownTypes.add(((ClassTree) outer).getSimpleName().toString());
            for (Tree member : ((ClassTree) outer).getMembers()) {
                if (member instanceof ClassTree inside) {
                    ownTypes.add(inside.getSimpleName().toString());
                } else if (member instanceof MethodTree method && method.getReturnType() != null
                        && method.getModifiers().getFlags().contains(Modifier.PUBLIC)) {
                    face.add(method.getName().toString());
                }
            }
        }
    }

    private void due(String rule, Tree at, boolean is) {
        long position = source.trees.getSourcePositions().getStartPosition(source.unit, at);
        long line = position < 0 ? 0 : source.lineAt(position);
        Checks.holds("line " + line + ", " + rule, is);
    }

    private Element elementHere() {
        return source.trees.getElement(getCurrentPath());
    }

    /** Whether this stands in the head of a class or in a constructor, and so is done once for an object. */
    private boolean isDoneOnce() {
        for (TreePath path = getCurrentPath(); path != null; path = path.getParentPath()) {
            if (path.getLeaf() instanceof MethodTree method) {
                return method.getReturnType() == null;
            }
        }
        return true;
    }

    @Override
    public Void scan(Tree tree, Void none) {
        if (tree != null) {
            due("rules 2, 3, 6 and 10: " + tree.getKind(), tree, KINDS.contains(tree.getKind().name()));
        }
        return super.scan(tree, none);
    }

    @Override
    public Void visitCompilationUnit(CompilationUnitTree unit, Void none) {
        due("rule 1: no package", unit, unit.getPackageName() == null);
        due("rule 4: no imports", unit, unit.getImports().isEmpty());
        due("one class", unit, unit.getTypeDecls().size() == 1);
        return super.visitCompilationUnit(unit, none);
    }

    @Override
    public Void visitClass(ClassTree type, Void none) {
        classes++;
        Set<Modifier> flags = type.getModifiers().getFlags();
        boolean outer = getCurrentPath().getParentPath().getLeaf() instanceof CompilationUnitTree;
        due("rule 1: final", type, flags.contains(Modifier.FINAL));
        due("rule 1: public, or private inside", type, flags.contains(outer ? Modifier.PUBLIC : Modifier.PRIVATE));
        due("rule 1: static inside", type, outer || flags.contains(Modifier.STATIC));
        due("rule 6: extends nothing", type, type.getExtendsClause() == null && type.getImplementsClause().isEmpty());
        int fields = 0;
        for (Tree member : type.getMembers()) {
            due("rule 5: no block of its own", member, member.getKind() != Tree.Kind.BLOCK);
            if (member instanceof VariableTree field && !field.getModifiers().getFlags().contains(Modifier.STATIC)) {
                fields++;
            }
        }
        due("rule 11: some twenty fields", type, fields <= MOST_FIELDS);
        return super.visitClass(type, none);
    }

    @Override
    public Void visitMethod(MethodTree method, Void none) {
        String name = method.getName().toString();
        boolean isFace = method.getModifiers().getFlags().contains(Modifier.PUBLIC);
        due("rule 1: no name of a public method: " + name, method, isFace || !face.contains(name));
        due("rule 11: parameters of " + name, method, method.getParameters().size() <= MOST_PARAMETERS);
        long start = source.trees.getSourcePositions().getStartPosition(source.unit, method);
        long end = source.trees.getSourcePositions().getEndPosition(source.unit, method);
        if (start >= 0 && end >= 0) {
            due("rule 11: lines of " + name, method, source.lineAt(end) - source.lineAt(start) < MOST_LINES);
        }
        return super.visitMethod(method, none);
    }

    @Override
    public Void visitVariable(VariableTree variable, Void none) {
        String type = variable.getType().toString();
        String part = type.endsWith("[]") ? type.substring(0, type.length() - 2) : type;
        due("rule 3: " + type, variable, PRIMITIVES.contains(part) || ownTypes.contains(part));
        Set<Modifier> flags = variable.getModifiers().getFlags();
        if (flags.contains(Modifier.STATIC)) {
            due("rule 5: static and final", variable, flags.contains(Modifier.FINAL));
            due("rule 5: a constant", variable, type.equals("int") || type.equals("int[]"));
        }
        return super.visitVariable(variable, none);
    }

    @Override
    public Void visitMethodInvocation(MethodInvocationTree call, Void none) {
        Element element = elementHere();
        String name = element.getEnclosingElement() + "." + element;
        due("rule 4: " + name, call, name.startsWith("QueryHarbor") || LIBRARY.contains(name));
        return super.visitMethodInvocation(call, none);
    }

    @Override
    public Void visitNewClass(NewClassTree made, Void none) {
        boolean thrown = getCurrentPath().getParentPath().getLeaf() instanceof ThrowTree;
        String type = made.getIdentifier().toString();
        due("rule 6: " + type, made, thrown ? EXCEPTIONS.contains(type) : ownTypes.contains(type));
        due("room: objects are made once", made, thrown || isDoneOnce());
        return super.visitNewClass(made, none);
    }

    @Override
    public Void visitNewArray(NewArrayTree made, Void none) {
        due("room: arrays are made once", made, isDoneOnce());
        return super.visitNewArray(made, none);
    }

    @Override
    public Void visitThrow(ThrowTree thrown, Void none) {
        due("rule 6: throws a new one", thrown, thrown.getExpression() instanceof NewClassTree);
        due("rule 6: no throw in a constructor", thrown, !isDoneOnce());
        return super.visitThrow(thrown, none);
    }

    @Override
    public Void visitBinary(BinaryTree binary, Void none) {
        if (binary.getKind() == Tree.Kind.DIVIDE) {
            due("rule 7: divides by a constant", binary, isConstant(binary.getRightOperand()));
        }
        return super.visitBinary(binary, none);
    }

    /** A constant of the program, none of which is 0 where something is divided by it. */
    private boolean isConstant(ExpressionTree expression) {
        Element element = source.trees.getElement(new TreePath(getCurrentPath(), expression));
        return element instanceof VariableElement constant
                && constant.getConstantValue() instanceof Integer number && number != 0;
    }

    @Override
    public Void visitForLoop(ForLoopTree loop, Void none) {
        due("rule 9: a counter against a bound", loop, loop.getCondition() != null && loop.getUpdate().size() == 1);
        return super.visitForLoop(loop, none);
    }

    @Override
    public Void visitWhileLoop(WhileLoopTree loop, Void none) {
        due("rule 9: an end", loop, !loop.getCondition().toString().contains("true"));
        return super.visitWhileLoop(loop, none);
    }

    @Override
    public Void visitCase(CaseTree part, Void none) {
        due("rule 2: no arrows", part, part.getCaseKind() == CaseTree.CaseKind.STATEMENT);
        return super.visitCase(part, none);
    }

    @Override
    public Void visitAssignment(AssignmentTree assignment, Void none) {
        notToStatic(assignment.getVariable());
        return super.visitAssignment(assignment, none);
    }

    @Override
    public Void visitCompoundAssignment(CompoundAssignmentTree assignment, Void none) {
        notToStatic(assignment.getVariable());
        return super.visitCompoundAssignment(assignment, none);
    }

    @Override
    public Void visitUnary(UnaryTree unary, Void none) {
        if (unary.getKind() == Tree.Kind.POSTFIX_INCREMENT || unary.getKind() == Tree.Kind.POSTFIX_DECREMENT) {
            notToStatic(unary.getExpression());
        }
        return super.visitUnary(unary, none);
    }

    private void notToStatic(ExpressionTree place) {
        ExpressionTree array = place instanceof ArrayAccessTree access ? access.getExpression() : place;
        Element element = source.trees.getElement(new TreePath(getCurrentPath(), array));
        due("rule 5: static fields are never changed", place,
                element != null && !element.getModifiers().contains(Modifier.STATIC));
    }
}
