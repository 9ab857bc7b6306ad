import com.sun.source.tree.*;
import com.sun.source.util.JavacTask;
import com.sun.source.util.SourcePositions;
import com.sun.source.util.TreeScanner;
import com.sun.source.util.Trees;
import java.io.File;
import java.util.EnumSet;
import java.util.HashMap;
import java.util.HashSet;
import java.util.List;
import java.util.Map;
import java.util.Set;
import java.util.TreeSet;
import javax.lang.model.element.Modifier;
import javax.tools.JavaCompiler;
import javax.tools.StandardJavaFileManager;
import javax.tools.ToolProvider;

/**
 * The source of the class keeps to those rules of LANGUAGE.md that its form shows. It is stricter
 * than rules 3, 4 and 8 where that is simpler to see: arrays are made in field initialisers alone,
 * nothing is selected with a dot, and each loop is a for loop with a comparison and a step.
 */
public final class LanguageTest extends TreeScanner<Void, Void> {
    private static final String SOURCE = "src/main/java/FmIndex.java";
    private static final Set<String> NUMBERS =
            Set.of("int", "long", "short", "byte", "char", "boolean");
    private static final Set<Tree.Kind> COMPARISONS = EnumSet.of(Tree.Kind.LESS_THAN,
            Tree.Kind.LESS_THAN_EQUAL, Tree.Kind.GREATER_THAN, Tree.Kind.GREATER_THAN_EQUAL);

    /** What may never stand in the class, with the rule that says so. */
    private static final Map<Tree.Kind, Integer> NEVER = Map.ofEntries(
            Map.entry(Tree.Kind.STRING_LITERAL, 2), Map.entry(Tree.Kind.FLOAT_LITERAL, 2),
            Map.entry(Tree.Kind.DOUBLE_LITERAL, 2), Map.entry(Tree.Kind.MEMBER_SELECT, 3),
            Map.entry(Tree.Kind.NEW_CLASS, 4), Map.entry(Tree.Kind.NULL_LITERAL, 4),
            Map.entry(Tree.Kind.THROW, 6), Map.entry(Tree.Kind.TRY, 6),
            Map.entry(Tree.Kind.SYNCHRONIZED, 6), Map.entry(Tree.Kind.ASSERT, 6),
            Map.entry(Tree.Kind.INSTANCE_OF, 6), Map.entry(Tree.Kind.LAMBDA_EXPRESSION, 6),
            Map.entry(Tree.Kind.MEMBER_REFERENCE, 6), Map.entry(Tree.Kind.WHILE_LOOP, 8),
            Map.entry(Tree.Kind.DO_WHILE_LOOP, 8), Map.entry(Tree.Kind.ENHANCED_FOR_LOOP, 8));

    private final CompilationUnitTree unit;
    private final Set<String> constants = new HashSet<>();
    private final Set<String> arrays = new HashSet<>();
    private final Map<String, Set<String>> calls = new HashMap<>();
    private String method = "";
    private boolean inArguments;
    private int wrong;

    private LanguageTest(CompilationUnitTree unit) {
        this.unit = unit;
    }

    private void check(boolean holds, int rule, String what) {
        if (!holds) {
            wrong++;
            System.out.println("rule " + rule + ": " + (method + " " + what).strip());
        }
    }

    private static boolean isStatic(VariableTree field) {
        return field.getModifiers().getFlags().contains(Modifier.STATIC);
    }

    private static boolean isArray(VariableTree variable) {
        return variable.getType().getKind() == Tree.Kind.ARRAY_TYPE;
    }

    private long lineOf(long position) {
        return unit.getLineMap().getLineNumber(position);
    }

    private void wholeFile(JavacTask task) {
        check(unit.getPackage() == null, 0, "a package line");
        check(unit.getImports().isEmpty(), 3, "an import");
        check(unit.getTypeDecls().size() == 1, 1, "more than one class");
        int fields = 0;
        for (Tree member : ((ClassTree) unit.getTypeDecls().get(0)).getMembers()) {
            check(!(member instanceof ClassTree), 1, "a nested class");
            check(!(member instanceof BlockTree), 5, "an initialiser block");
            if (member instanceof VariableTree) {
                fields += field((VariableTree) member);
            } else if (member instanceof MethodTree) {
                lengthOf((MethodTree) member, task);
            }
        }
        check(fields <= 40, 10, fields + " fields beside the constants");
        scan(unit, null);
        for (String caller : calls.keySet()) {
            method = caller;
            check(depth(caller, new HashSet<>()) <= 6, 10, "calls more than six deep");
            check(calls.keySet().containsAll(calls.get(caller)), 3,
                    "calls what is no method of the class: " + calls.get(caller));
        }
    }

    /** Answers how much the field counts among those that are no constants. */
    private int field(VariableTree field) {
        String name = field.getName().toString();
        if (!isStatic(field)) {
            if (isArray(field)) {
                arrays.add(name);
            }
            return 1;
        }
        String type = field.getType().toString();
        check(field.getModifiers().getFlags().contains(Modifier.FINAL)
                && field.getInitializer() != null && (type.equals("int") || type.equals("long")),
                5, "static " + name + " is no constant of int or long");
        constants.add(name);
        return 0;
    }

    private void lengthOf(MethodTree tree, JavacTask task) {
        SourcePositions positions = Trees.instance(task).getSourcePositions();
        long lines = lineOf(positions.getEndPosition(unit, tree))
                - lineOf(positions.getStartPosition(unit, tree)) + 1;
        check(lines <= 60, 10, tree.getName() + " has " + lines + " lines");
    }

    /** How many methods the longest chain of calls from this one on has. */
    private int depth(String caller, Set<String> above) {
        if (!above.add(caller)) {
            check(false, 8, "is called by itself, through " + above);
            return 0;
        }
        int deepest = 0;
        for (String called : calls.getOrDefault(caller, Set.of())) {
            deepest = Math.max(deepest, depth(called, above));
        }
        above.remove(caller);
        return deepest + 1;
    }

    @Override
    public Void scan(Tree tree, Void none) {
        if (tree != null && NEVER.containsKey(tree.getKind())) {
            check(false, NEVER.get(tree.getKind()), "has a " + tree.getKind());
        }
        return super.scan(tree, none);
    }

    @Override
    public Void visitMethod(MethodTree tree, Void none) {
        method = tree.getName().toString();
        check(calls.put(method, new TreeSet<>()) == null, 1, "is there twice");
        check(tree.getParameters().size() <= 7, 10, "has more than seven parameters");
        check(tree.getThrows().isEmpty(), 6, "has a throws clause");
        if (tree.getReturnType() != null) {
            String type = tree.getReturnType().toString();
            check(type.equals("void") || NUMBERS.contains(type), 4, "answers " + type);
        }
        super.visitMethod(tree, none);
        method = "";
        return null;
    }

    @Override
    public Void visitVariable(VariableTree tree, Void none) {
        String type = String.valueOf(tree.getType()).replaceFirst("\\[\\]$", "");
        check(NUMBERS.contains(type), 2, tree.getName() + " is of type " + tree.getType());
        return super.visitVariable(tree, none);
    }

    @Override
    public Void visitNewArray(NewArrayTree tree, Void none) {
        check(method.isEmpty(), 4, "makes an array");
        List<? extends ExpressionTree> lengths = tree.getDimensions();
        check(tree.getInitializers() == null && lengths.size() == 1
                && (lengths.get(0) instanceof LiteralTree
                || constants.contains(lengths.get(0).toString())),
                4, "an array's length is no literal or constant: " + tree);
        return super.visitNewArray(tree, none);
    }

    @Override
    public Void visitAssignment(AssignmentTree tree, Void none) {
        check(!arrays.contains(tree.getVariable().toString()), 4, "assigns to an array field");
        return super.visitAssignment(tree, none);
    }

    @Override
    public Void visitBinary(BinaryTree tree, Void none) {
        check(!arrays.contains(tree.getLeftOperand().toString())
                && !arrays.contains(tree.getRightOperand().toString()), 4, "compares an array");
        return super.visitBinary(tree, none);
    }

    @Override
    public Void visitForLoop(ForLoopTree tree, Void none) {
        check(tree.getCondition() != null
                && COMPARISONS.contains(tree.getCondition().getKind())
                && tree.getUpdate().size() == 1, 8, "has a loop without a bound to be seen");
        return super.visitForLoop(tree, none);
    }

    @Override
    public Void visitMethodInvocation(MethodInvocationTree tree, Void none) {
        String called = tree.getMethodSelect().toString();
        check(!inArguments, 10, "calls " + called + " inside the arguments of another call");
        calls.computeIfAbsent(method, caller -> new TreeSet<>()).add(called);
        boolean before = inArguments;
        inArguments = true;
        scan(tree.getArguments(), none);
        inArguments = before;
        return null;
    }

    public static void main(String[] args) throws Exception {
        JavaCompiler compiler = ToolProvider.getSystemJavaCompiler();
        StandardJavaFileManager files = compiler.getStandardFileManager(null, null, null);
        JavacTask task = (JavacTask) compiler.getTask(null, files, null, null, null,
                files.getJavaFileObjects(new File(SOURCE)));
        LanguageTest test = new LanguageTest(task.parse().iterator().next());
        test.wholeFile(task);
        System.out.println(test.wrong == 0
                ? "the source keeps to the rules" : test.wrong + " things are not as due");
        if (test.wrong != 0) {
            System.exit(1);
        }
    }
}
