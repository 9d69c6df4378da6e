import com.sun.source.tree.ArrayTypeTree;
import com.sun.source.tree.BinaryTree;
import com.sun.source.tree.ClassTree;
import com.sun.source.tree.CompilationUnitTree;
import com.sun.source.tree.CompoundAssignmentTree;
import com.sun.source.tree.ForLoopTree;
import com.sun.source.tree.IdentifierTree;
import com.sun.source.tree.LiteralTree;
import com.sun.source.tree.MemberSelectTree;
import com.sun.source.tree.MethodInvocationTree;
import com.sun.source.tree.MethodTree;
import com.sun.source.tree.NewArrayTree;
import com.sun.source.tree.PrimitiveTypeTree;
import com.sun.source.tree.Tree;
import com.sun.source.tree.TypeCastTree;
import com.sun.source.tree.UnaryTree;
import com.sun.source.tree.VariableTree;
import com.sun.source.util.JavacTask;
import com.sun.source.util.SourcePositions;
import com.sun.source.util.TreeScanner;
import com.sun.source.util.Trees;
import java.util.EnumSet;
import java.util.Map;
import java.util.Set;
import java.util.TreeMap;
import java.util.TreeSet;
import javax.lang.model.element.Modifier;
import javax.lang.model.type.TypeKind;
import javax.tools.JavaCompiler;
import javax.tools.StandardJavaFileManager;
import javax.tools.ToolProvider;

/** LANGUAGE.md: the rules that can be seen in the program's text. FaceTest has the rest of rule 1. */
public final class LanguageTest extends TreeScanner<Void, String> {
    private static final String PROGRAM = "src/main/java/ReasmDisasm.java";

    /**
     * What rules 2, 4, 6 and 9 leave, beside operators and compound assignments. They leave while and do too, but
     * only in a for can this test see the counter that rule 8 asks for.
     */
    private static final Set<Tree.Kind> ALLOWED = EnumSet.of(
        Tree.Kind.COMPILATION_UNIT, Tree.Kind.CLASS, Tree.Kind.METHOD, Tree.Kind.VARIABLE, Tree.Kind.MODIFIERS,
        Tree.Kind.PRIMITIVE_TYPE, Tree.Kind.ARRAY_TYPE, Tree.Kind.NEW_ARRAY, Tree.Kind.ARRAY_ACCESS,
        Tree.Kind.IDENTIFIER, Tree.Kind.MEMBER_SELECT, Tree.Kind.METHOD_INVOCATION, Tree.Kind.ASSIGNMENT,
        Tree.Kind.BLOCK, Tree.Kind.EXPRESSION_STATEMENT, Tree.Kind.IF, Tree.Kind.FOR_LOOP, Tree.Kind.SWITCH,
        Tree.Kind.CASE, Tree.Kind.BREAK, Tree.Kind.CONTINUE, Tree.Kind.LABELED_STATEMENT, Tree.Kind.RETURN,
        Tree.Kind.CONDITIONAL_EXPRESSION, Tree.Kind.PARENTHESIZED, Tree.Kind.TYPE_CAST, Tree.Kind.EMPTY_STATEMENT,
        Tree.Kind.INT_LITERAL, Tree.Kind.LONG_LITERAL, Tree.Kind.CHAR_LITERAL, Tree.Kind.BOOLEAN_LITERAL);

    private final CompilationUnitTree unit;
    private final SourcePositions positions;
    private final Set<String> constants = new TreeSet<>();
    private final Map<String, Set<String>> calls = new TreeMap<>();
    private int fields = 0;
    private boolean inArguments = false;

    private LanguageTest(CompilationUnitTree unit, SourcePositions positions) {
        this.unit = unit;
        this.positions = positions;
    }

    public static void main(String[] args) throws Exception {
        JavaCompiler compiler = ToolProvider.getSystemJavaCompiler();
        StandardJavaFileManager files = compiler.getStandardFileManager(null, null, null);
        JavacTask task = (JavacTask) compiler.getTask(null, files, null, null, null, files.getJavaFileObjects(PROGRAM));
        SourcePositions positions = Trees.instance(task).getSourcePositions();
        for (CompilationUnitTree unit : task.parse()) {
            new LanguageTest(unit, positions).look();
        }
        Check.end();
    }

    private void look() {
        Check.due("rule 1: package line", unit.getPackageName() != null, false);
        Check.due("rule 1: classes", unit.getTypeDecls().size(), 1);
        Check.due("rule 3: imports", unit.getImports().size(), 0);
        scan(unit, null);
        Check.due("rule 10: at most some forty fields: " + fields, fields <= 40, true);
        for (String method : calls.keySet()) {
            int depth = depth(method, new TreeSet<>());
            Check.due("rule 10: calls go at most six deep: " + method, depth <= 6, true);
        }
    }

    private void hold(int rule, Tree tree, boolean holds) {
        hold("rule " + rule, tree, holds);
    }

    private void hold(String rule, Tree tree, boolean holds) {
        long line = unit.getLineMap().getLineNumber(positions.getStartPosition(unit, tree));
        Check.due(rule + " in line " + line + ": " + tree.toString().trim(), holds, true);
    }

    @Override
    public Void scan(Tree tree, String method) {
        if (tree != null) {
            boolean operator = tree instanceof BinaryTree || tree instanceof UnaryTree
                || tree instanceof CompoundAssignmentTree;
            hold("rule 2, 4, 6 or 9", tree, operator || ALLOWED.contains(tree.getKind()));
        }
        return super.scan(tree, method);
    }

    @Override
    public Void visitClass(ClassTree tree, String method) {
        for (Tree member : tree.getMembers()) {
            hold(1, member, member instanceof VariableTree || member instanceof MethodTree);
            if (member instanceof VariableTree) {
                lookAtField((VariableTree) member);
            }
        }
        return super.visitClass(tree, method);
    }

    private void lookAtField(VariableTree field) {
        if (!field.getModifiers().getFlags().contains(Modifier.STATIC)) {
            fields++;
            boolean isFinal = field.getModifiers().getFlags().contains(Modifier.FINAL);
            hold(4, field, isFinal || !(field.getType() instanceof ArrayTypeTree));
            return;
        }
        hold(5, field, field.getModifiers().getFlags().contains(Modifier.FINAL));
        hold(5, field, field.getInitializer() instanceof LiteralTree);
        hold(5, field, field.getType().toString().equals("int") || field.getType().toString().equals("long"));
        constants.add(field.getName().toString());
    }

    @Override
    public Void visitMethod(MethodTree tree, String none) {
        String name = tree.getName().toString();
        hold(1, tree, calls.put(name, new TreeSet<>()) == null);
        if (tree.getReturnType() != null) {
            hold(4, tree, tree.getReturnType() instanceof PrimitiveTypeTree);
        }
        hold(10, tree, tree.getParameters().size() <= 7);
        hold(10, tree, tree.toString().lines().count() <= 60);
        return super.visitMethod(tree, name);
    }

    @Override
    public Void visitVariable(VariableTree tree, String method) {
        Tree type = tree.getType();
        if (type instanceof ArrayTypeTree) {
            type = ((ArrayTypeTree) type).getType();
        }
        hold(2, tree, type instanceof PrimitiveTypeTree);
        return super.visitVariable(tree, method);
    }

    @Override
    public Void visitPrimitiveType(PrimitiveTypeTree tree, String method) {
        TypeKind kind = tree.getPrimitiveTypeKind();
        hold(2, tree, kind != TypeKind.FLOAT && kind != TypeKind.DOUBLE);
        return super.visitPrimitiveType(tree, method);
    }

    @Override
    public Void visitTypeCast(TypeCastTree tree, String method) {
        hold(6, tree, tree.getType() instanceof PrimitiveTypeTree);
        return super.visitTypeCast(tree, method);
    }

    /** Stricter than rule 3, which leaves an array's length: a dot stands after `this` alone, so no class is named. */
    @Override
    public Void visitMemberSelect(MemberSelectTree tree, String method) {
        hold(3, tree, tree.getExpression().toString().equals("this"));
        return super.visitMemberSelect(tree, method);
    }

    @Override
    public Void visitNewArray(NewArrayTree tree, String method) {
        hold(4, tree, method == null && tree.getInitializers() == null && tree.getDimensions().size() == 1);
        if (tree.getDimensions().size() == 1) {
            Tree length = tree.getDimensions().get(0);
            hold(4, tree, length instanceof LiteralTree
                || length instanceof IdentifierTree && constants.contains(length.toString()));
        }
        return super.visitNewArray(tree, method);
    }

    /** The plainest form of rule 8: a counter that the loop's own line changes and compares. */
    @Override
    public Void visitForLoop(ForLoopTree tree, String method) {
        hold(8, tree, tree.getCondition() != null && tree.getUpdate().size() == 1);
        return super.visitForLoop(tree, method);
    }

    @Override
    public Void visitMethodInvocation(MethodInvocationTree tree, String method) {
        hold(3, tree, tree.getMethodSelect() instanceof IdentifierTree);
        hold(10, tree, !inArguments);
        if (method != null) {
            calls.get(method).add(tree.getMethodSelect().toString());
        }
        boolean before = inArguments;
        inArguments = true;
        scan(tree.getArguments(), method);
        inArguments = before;
        return null;
    }

    /** How deep the calls go from the method on, which is 1 if it calls none. */
    private int depth(String method, Set<String> open) {
        Check.due("rule 3: " + method + " is a method of the program", calls.containsKey(method), true);
        boolean recursive = !open.add(method);
        Check.due("rule 8: " + method + " is recursive", recursive, false);
        int deepest = 0;
        if (!recursive && calls.containsKey(method)) {
            for (String called : calls.get(method)) {
                deepest = Math.max(deepest, depth(called, new TreeSet<>(open)));
            }
        }
        return deepest + 1;
    }
}
