import com.sun.source.tree.ArrayTypeTree;
import com.sun.source.tree.AssignmentTree;
import com.sun.source.tree.BinaryTree;
import com.sun.source.tree.ClassTree;
import com.sun.source.tree.CompilationUnitTree;
import com.sun.source.tree.CompoundAssignmentTree;
import com.sun.source.tree.ExpressionTree;
import com.sun.source.tree.ForLoopTree;
import com.sun.source.tree.IdentifierTree;
import com.sun.source.tree.MethodInvocationTree;
import com.sun.source.tree.MethodTree;
import com.sun.source.tree.NewArrayTree;
import com.sun.source.tree.Tree;
import com.sun.source.tree.UnaryTree;
import com.sun.source.tree.VariableTree;
import com.sun.source.util.JavacTask;
import com.sun.source.util.SourcePositions;
import com.sun.source.util.TreePathScanner;
import com.sun.source.util.TreeScanner;
import com.sun.source.util.Trees;
import java.io.IOException;
import java.util.Arrays;
import java.util.List;
import java.util.Map;
import java.util.Set;
import java.util.TreeMap;
import java.util.TreeSet;
import javax.tools.JavaCompiler;
import javax.tools.StandardJavaFileManager;
import javax.tools.ToolProvider;

// The rules of LANGUAGE.md that can be read off the source's form; FaceTest has those about the members' faces.
public final class LanguageTest extends TreePathScanner<Void, Void> {
    private static final String SOURCE = "src/main/java/DensestSubgraph.java";
    private static final int MAX_PARAMETERS = 7;
    private static final int MAX_LINES = 60;
    private static final int MAX_FIELDS = 40;
    private static final int MAX_DEPTH = 6;

    // What may stand in the source; all else (imports, new objects, throw, try, lambdas, null, text ...) may not.
    // Casts and .length are left out, as the class needs neither and the form alone doesn't tell the allowed ones;
    // so are while and do, as a for loop shows its end best.
    private static final Set<String> FORMS = new TreeSet<>(Arrays.asList(
        "COMPILATION_UNIT", "CLASS", "METHOD", "VARIABLE", "MODIFIERS", "PRIMITIVE_TYPE", "ARRAY_TYPE", "NEW_ARRAY",
        "BLOCK", "EXPRESSION_STATEMENT", "RETURN", "IF", "FOR_LOOP", "SWITCH", "CASE",
        "BREAK", "CONTINUE", "LABELED_STATEMENT", "EMPTY_STATEMENT", "CONDITIONAL_EXPRESSION", "PARENTHESIZED",
        "IDENTIFIER", "ARRAY_ACCESS", "METHOD_INVOCATION", "ASSIGNMENT", "INT_LITERAL", "LONG_LITERAL",
        "CHAR_LITERAL", "BOOLEAN_LITERAL", "PLUS", "MINUS", "MULTIPLY", "DIVIDE", "REMAINDER", "LEFT_SHIFT",
        "RIGHT_SHIFT", "UNSIGNED_RIGHT_SHIFT", "AND", "OR", "XOR", "CONDITIONAL_AND", "CONDITIONAL_OR", "EQUAL_TO",
        "NOT_EQUAL_TO", "LESS_THAN", "LESS_THAN_EQUAL", "GREATER_THAN", "GREATER_THAN_EQUAL", "UNARY_PLUS",
        "UNARY_MINUS", "BITWISE_COMPLEMENT", "LOGICAL_COMPLEMENT", "PREFIX_INCREMENT", "PREFIX_DECREMENT",
        "POSTFIX_INCREMENT", "POSTFIX_DECREMENT", "PLUS_ASSIGNMENT", "MINUS_ASSIGNMENT", "MULTIPLY_ASSIGNMENT",
        "DIVIDE_ASSIGNMENT", "REMAINDER_ASSIGNMENT", "LEFT_SHIFT_ASSIGNMENT", "RIGHT_SHIFT_ASSIGNMENT",
        "UNSIGNED_RIGHT_SHIFT_ASSIGNMENT", "AND_ASSIGNMENT", "OR_ASSIGNMENT", "XOR_ASSIGNMENT"));
    private static final Set<String> TYPES = new TreeSet<>(Arrays.asList(
        "int", "long", "short", "byte", "char", "boolean", "void"));

    private final CompilationUnitTree unit;
    private final SourcePositions positions;
    private final Map<String, Set<String>> callsOf = new TreeMap<>();
    private final Set<String> arrayFields = new TreeSet<>();
    private final Set<String> constants = new TreeSet<>();
    private String method = "";
    private int wrong = 0;

    private LanguageTest(CompilationUnitTree unit, SourcePositions positions) {
        this.unit = unit;
        this.positions = positions;
    }

    public static void main(String[] args) throws IOException {
        JavaCompiler compiler = ToolProvider.getSystemJavaCompiler();
        StandardJavaFileManager files = compiler.getStandardFileManager(null, null, null);
        JavacTask task = (JavacTask) compiler.getTask(null, files, null, null, null, files.getJavaFileObjects(SOURCE));
        CompilationUnitTree unit = task.parse().iterator().next();
        LanguageTest test = new LanguageTest(unit, Trees.instance(task).getSourcePositions());
        test.checkUnit();
        System.out.println(test.wrong == 0 ? "the language is kept" : test.wrong + " faults in the language");
        if (test.wrong != 0) {
            System.exit(1);
        }
    }

    private void fault(String rule, Tree tree, String text) {
        wrong++;
        System.out.println("rule " + rule + ", line " + lineOf(positions.getStartPosition(unit, tree)) + ": " + text);
    }

    private long lineOf(long position) {
        return unit.getLineMap().getLineNumber(position);
    }

    private void checkUnit() {
        List<? extends Tree> types = unit.getTypeDecls();
        if (types.size() != 1) {
            fault("1", unit, "there is not one class alone");
        }
        ClassTree type = (ClassTree) types.get(0);
        checkMembers(type);
        scan(unit, null);
        for (String name : callsOf.keySet()) {
            checkDepth(type, name, new TreeSet<>(), 1);
        }
    }

    private void checkMembers(ClassTree type) {
        int fields = 0;
        for (Tree member : type.getMembers()) {
            if (member instanceof VariableTree) {
                VariableTree field = (VariableTree) member;
                String flags = field.getModifiers().getFlags().toString();
                fields += flags.contains("static") ? 0 : 1;
                if (flags.contains("static") && flags.contains("final")) {
                    constants.add(field.getName().toString());
                }
                if (field.getType() instanceof ArrayTypeTree) {
                    arrayFields.add(field.getName().toString());
                }
            } else if (!(member instanceof MethodTree)) {
                fault("1", member, "a member is neither field nor method");
            }
        }
        if (fields > MAX_FIELDS) {
            fault("10", type, fields + " fields");
        }
    }

    private void checkDepth(Tree tree, String name, Set<String> above, int depth) {
        if (above.contains(name)) {
            fault("8", tree, name + " calls itself");
        } else if (depth > MAX_DEPTH) {
            fault("10", tree, name + " is called " + depth + " deep");
        } else if (callsOf.containsKey(name)) {
            Set<String> here = new TreeSet<>(above);
            here.add(name);
            for (String called : callsOf.get(name)) {
                checkDepth(tree, called, here, depth + 1);
            }
        } else {
            fault("3", tree, name + " is not a method of the class");
        }
    }

    @Override
    public Void scan(Tree tree, Void nothing) {
        if (tree != null && !FORMS.contains(tree.getKind().name())) {
            fault("2 to 6", tree, tree.getKind() + ": " + tree);
        }
        if (tree != null && tree.getKind() == Tree.Kind.PRIMITIVE_TYPE && !TYPES.contains(tree.toString())) {
            fault("2", tree, "the type " + tree);
        }
        return super.scan(tree, nothing);
    }

    @Override
    public Void visitVariable(VariableTree variable, Void nothing) {
        checkType(variable, variable.getType());
        return super.visitVariable(variable, nothing);
    }

    private void checkType(Tree tree, Tree type) {
        Tree part = type instanceof ArrayTypeTree ? ((ArrayTypeTree) type).getType() : type;
        if (part == null || part.getKind() != Tree.Kind.PRIMITIVE_TYPE) {
            fault("2", tree, "the type " + type);
        }
    }

    @Override
    public Void visitMethod(MethodTree tree, Void nothing) {
        method = tree.getName().toString();
        // The compiler's own call of Object's constructor isn't in the source, so the constructor is a plain node here.
        callsOf.putIfAbsent(method, new TreeSet<>());
        if (tree.getReturnType() instanceof ArrayTypeTree) {
            fault("4", tree, method + " answers an array");
        }
        if (tree.getParameters().size() > MAX_PARAMETERS) {
            fault("10", tree, method + " has more than seven parameters");
        }
        long lines = lineOf(positions.getEndPosition(unit, tree)) - lineOf(positions.getStartPosition(unit, tree)) + 1;
        if (lines > MAX_LINES) {
            fault("10", tree, method + " has " + lines + " lines");
        }
        super.visitMethod(tree, nothing);
        method = "";
        return null;
    }

    @Override
    public Void visitMethodInvocation(MethodInvocationTree call, Void nothing) {
        if (method.isEmpty()) {
            fault("4 and 5", call, "a field's initialiser calls " + call);
        } else {
            callsOf.get(method).add(call.getMethodSelect().toString());
        }
        for (ExpressionTree argument : call.getArguments()) {
            if (new CallFinder().find(argument)) {
                fault("10", call, "a call stands inside the arguments of " + call);
            }
        }
        return super.visitMethodInvocation(call, nothing);
    }

    private static final class CallFinder extends TreeScanner<Void, Void> {
        private boolean found = false;

        private boolean find(Tree tree) {
            tree.accept(this, null);
            return found;
        }

        @Override
        public Void visitMethodInvocation(MethodInvocationTree call, Void nothing) {
            found = true;
            return null;
        }
    }

    @Override
    public Void visitNewArray(NewArrayTree array, Void nothing) {
        Tree holder = getCurrentPath().getParentPath().getLeaf();
        Tree above = getCurrentPath().getParentPath().getParentPath().getLeaf();
        boolean field = holder instanceof VariableTree && above instanceof ClassTree;
        boolean oneLength = array.getDimensions().size() == 1 && array.getInitializers() == null;
        if (!field || !oneLength) {
            fault("4", array, "an array is not made with a length in a field's initialiser: " + array);
        } else if (!isLength(array.getDimensions().get(0).toString())) {
            fault("4", array, "an array's length is neither a literal nor a constant: " + array);
        }
        return super.visitNewArray(array, nothing);
    }

    private boolean isLength(String text) {
        return constants.contains(text) || text.matches("[1-9][0-9]*");
    }

    // A counter that goes up while it is less than a bound, or down while it is more, can't run past an int's end.
    @Override
    public Void visitForLoop(ForLoopTree loop, Void nothing) {
        Tree condition = loop.getCondition();
        boolean up = condition != null && condition.getKind() == Tree.Kind.LESS_THAN;
        boolean down = condition != null && condition.getKind() == Tree.Kind.GREATER_THAN;
        if (!up && !down) {
            fault("8", loop, "the loop's condition is no counter against a bound: " + condition);
        } else {
            String counter = ((BinaryTree) condition).getLeftOperand().toString();
            String bound = ((BinaryTree) condition).getRightOperand().toString();
            checkStep(loop, counter, up ? "++" : "--");
            checkCounterAndBound(loop, counter, bound);
        }
        return super.visitForLoop(loop, nothing);
    }

    private void checkStep(ForLoopTree loop, String counter, String step) {
        String steps = loop.getUpdate().toString().replace(";", "");
        if (!steps.equals(counter + step)) {
            fault("8", loop, "the loop's step is not " + counter + step + " but " + steps);
        }
    }

    private void checkCounterAndBound(ForLoopTree loop, String counter, String bound) {
        Set<String> changed = new ChangeFinder().find(loop.getStatement());
        if (changed.contains(counter)) {
            fault("8", loop, "the loop changes its counter " + counter);
        }
        boolean name = bound.matches("[A-Za-z]\\w*");
        if (name ? changed.contains(bound) : !bound.matches("[0-9]+")) {
            fault("8", loop, "the loop's bound " + bound + " is neither a number nor a name that it leaves alone");
        }
    }

    private static final class ChangeFinder extends TreeScanner<Void, Void> {
        private final Set<String> changed = new TreeSet<>();

        private Set<String> find(Tree tree) {
            tree.accept(this, null);
            return changed;
        }

        @Override
        public Void visitAssignment(AssignmentTree tree, Void nothing) {
            changed.add(tree.getVariable().toString());
            return super.visitAssignment(tree, nothing);
        }

        @Override
        public Void visitCompoundAssignment(CompoundAssignmentTree tree, Void nothing) {
            changed.add(tree.getVariable().toString());
            return super.visitCompoundAssignment(tree, nothing);
        }

        @Override
        public Void visitUnary(UnaryTree tree, Void nothing) {
            String kind = tree.getKind().name();
            if (kind.endsWith("INCREMENT") || kind.endsWith("DECREMENT")) {
                changed.add(tree.getExpression().toString());
            }
            return super.visitUnary(tree, nothing);
        }
    }

    // An array's name may stand ahead of an index or as an argument, so it is never assigned, compared or answered.
    @Override
    public Void visitIdentifier(IdentifierTree name, Void nothing) {
        Tree.Kind above = getCurrentPath().getParentPath().getLeaf().getKind();
        boolean fine = above == Tree.Kind.ARRAY_ACCESS || above == Tree.Kind.METHOD_INVOCATION;
        if (arrayFields.contains(name.getName().toString()) && !fine) {
            fault("4", name, "the array " + name + " is not used by an index");
        }
        return super.visitIdentifier(name, nothing);
    }
}
