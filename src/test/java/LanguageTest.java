import com.sun.source.tree.AssignmentTree;
import com.sun.source.tree.BinaryTree;
import com.sun.source.tree.ClassTree;
import com.sun.source.tree.CompoundAssignmentTree;
import com.sun.source.tree.ExpressionTree;
import com.sun.source.tree.ForLoopTree;
import com.sun.source.tree.MemberSelectTree;
import com.sun.source.tree.MethodInvocationTree;
import com.sun.source.tree.MethodTree;
import com.sun.source.tree.NewArrayTree;
import com.sun.source.tree.Tree;
import com.sun.source.tree.TypeCastTree;
import com.sun.source.tree.UnaryTree;
import com.sun.source.tree.VariableTree;
import java.io.IOException;
import java.nio.file.Path;
import java.util.EnumSet;
import java.util.Set;
import java.util.TreeSet;
import javax.lang.model.element.Modifier;

/**
 * The rules of LANGUAGE.md that can be seen in the program's text, in places drawn tighter than there: all arrays are
 * made in the fields' initialisers, and every loop is a for. FaceTest has the rest of rule 1, AnyIntTest rule 7.
 */
public final class LanguageTest {
    private static final Path PROGRAM = Path.of("src/main/java/BorderTracer.java");
    private static final String TYPES = "int|long|short|byte|char|boolean";

    private static final Set<Tree.Kind> KINDS = EnumSet.of(
        Tree.Kind.COMPILATION_UNIT, Tree.Kind.CLASS, Tree.Kind.MODIFIERS, Tree.Kind.VARIABLE, Tree.Kind.METHOD,
        Tree.Kind.PRIMITIVE_TYPE, Tree.Kind.ARRAY_TYPE, Tree.Kind.BLOCK, Tree.Kind.IF, Tree.Kind.FOR_LOOP,
        Tree.Kind.SWITCH, Tree.Kind.CASE, Tree.Kind.BREAK, Tree.Kind.CONTINUE, Tree.Kind.LABELED_STATEMENT,
        Tree.Kind.RETURN, Tree.Kind.EXPRESSION_STATEMENT, Tree.Kind.CONDITIONAL_EXPRESSION, Tree.Kind.PARENTHESIZED,
        Tree.Kind.IDENTIFIER, Tree.Kind.MEMBER_SELECT, Tree.Kind.METHOD_INVOCATION, Tree.Kind.ARRAY_ACCESS,
        Tree.Kind.NEW_ARRAY, Tree.Kind.TYPE_CAST, Tree.Kind.ASSIGNMENT, Tree.Kind.INT_LITERAL,
        Tree.Kind.LONG_LITERAL, Tree.Kind.CHAR_LITERAL, Tree.Kind.BOOLEAN_LITERAL);

    private static Source source;

    public static void main(String[] args) throws IOException {
        source = new Source(PROGRAM);
        oneClass();
        types();
        noLibrary();
        arraysAreMadeOnce();
        arraysStayWhereTheyAre();
        staticFields();
        plainStatements();
        noRecursion();
        loops();
        parameters();
        callsInArguments();
        shortMethods();
        shallowCalls();
        fewFields();
        Check.finish();
    }

    private static void oneClass() {
        Check.sentence("1. One class. No nested class, interface, enum or record.");
        Check.due("package line", source.unit.getPackageName() == null, true);
        Check.due("imports", source.unit.getImports().size(), 0);
        Check.due("classes", source.all(ClassTree.class).size(), 1);
    }

    private static void types() {
        Check.sentence("2. Types: int, long, short, byte, char, boolean, and one-dimensional arrays of these.");
        for (VariableTree variable : source.all(VariableTree.class)) {
            isPlain(variable, variable.getType());
        }
        for (MethodTree method : source.methods) {
            if (method.getReturnType() != null && !method.getReturnType().toString().equals("void")) {
                isPlain(method, method.getReturnType());
            }
        }
    }

    private static void isPlain(Tree tree, Tree type) {
        boolean plain = String.valueOf(type).matches("(" + TYPES + ")(\\[\\])?");
        Check.due(source.where(tree) + " has a plain type", plain, true);
    }

    /** Calls go to the class's own methods, and a dot stands only behind "this", so no other class is reached. */
    private static void noLibrary() {
        Check.sentence("3. No class of the Java library; none of Object's methods is called.");
        for (MethodInvocationTree call : source.all(MethodInvocationTree.class)) {
            String name = call.getMethodSelect().toString();
            Check.due(source.where(call) + " is an own method", source.calls.containsKey(name), true);
        }
        for (MemberSelectTree select : source.all(MemberSelectTree.class)) {
            Check.due(source.where(select), select.getExpression().toString(), "this");
        }
    }

    private static void arraysAreMadeOnce() {
        Check.sentence("4. Arrays are made in a field's initialiser, with a length that is a literal or a constant.");
        int inFields = 0;
        for (VariableTree field : source.fields) {
            inFields += field.getInitializer() instanceof NewArrayTree ? 1 : 0;
        }
        Check.due("arrays made", source.all(NewArrayTree.class).size(), inFields);
        for (NewArrayTree array : source.all(NewArrayTree.class)) {
            Check.due(source.where(array) + " has one length", array.getDimensions().size(), 1);
            Check.due(source.where(array) + " has no values", array.getInitializers() == null, true);
            for (ExpressionTree length : array.getDimensions()) {
                boolean literal = length.getKind() == Tree.Kind.INT_LITERAL;
                Check.due(source.where(array), literal || constants().contains(length.toString()), true);
            }
        }
    }

    private static TreeSet<String> constants() {
        TreeSet<String> constants = new TreeSet<>();
        for (VariableTree field : source.fields) {
            if (isStatic(field)) {
                constants.add(field.getName().toString());
            }
        }
        return constants;
    }

    private static boolean isStatic(VariableTree field) {
        return field.getModifiers().getFlags().contains(Modifier.STATIC);
    }

    private static void arraysStayWhereTheyAre() {
        Check.sentence("4. An array is never answered by a method, and no method assigns to an array field.");
        TreeSet<String> arrays = new TreeSet<>();
        for (VariableTree field : source.fields) {
            if (field.getType().getKind() == Tree.Kind.ARRAY_TYPE) {
                arrays.add(field.getName().toString());
            }
        }
        for (AssignmentTree assignment : source.all(AssignmentTree.class)) {
            String name = assignment.getVariable().toString().replace("this.", "");
            Check.due(source.where(assignment) + " is to an array field", arrays.contains(name), false);
        }
        for (MethodTree method : source.methods) {
            String type = String.valueOf(method.getReturnType());
            Check.due(method.getName() + " answers an array", type.contains("["), false);
        }
        for (VariableTree local : source.locals) {
            Check.due(source.where(local) + " names an array", local.getType().toString().contains("["), false);
        }
    }

    private static void staticFields() {
        Check.sentence("5. Static fields are compile-time constants of int or long alone.");
        for (VariableTree field : source.fields) {
            if (isStatic(field)) {
                Check.due(source.where(field), field.getType().toString().matches("int|long"), true);
                Check.due(source.where(field), field.getModifiers().getFlags().contains(Modifier.FINAL), true);
                Check.due(source.where(field), isConstant(field.getInitializer()), true);
            }
        }
        // A member that is neither a field nor a method is an initialiser block, or a class.
        int members = source.all(ClassTree.class).get(0).getMembers().size();
        Check.due("initialiser blocks", members - source.fields.size() - source.methods.size(), 0);
    }

    private static boolean isConstant(ExpressionTree value) {
        if (value == null) {
            return false;
        }
        for (Tree tree : Source.below(value)) {
            boolean call = tree.getKind() == Tree.Kind.METHOD_INVOCATION;
            boolean name = tree.getKind() == Tree.Kind.IDENTIFIER;
            if (call || (name && !constants().contains(tree.toString()))) {
                return false;
            }
        }
        return true;
    }

    private static void plainStatements() {
        Check.sentence("6. No throw, try, catch, synchronized, assert, instanceof, lambda, method reference or cast of "
            + "a reference.");
        for (Tree tree : source.trees) {
            if (!isOperator(tree) && !isCaseLabel(tree) && !KINDS.contains(tree.getKind())) {
                Check.due(source.where(tree), tree.getKind().name(), "a kind that the rules leave");
            }
        }
        for (TypeCastTree cast : source.all(TypeCastTree.class)) {
            Check.due(source.where(cast), cast.getType().toString().matches(TYPES), true);
        }
        Check.due("trees looked at", source.trees.size() > 0, true);
    }

    private static boolean isOperator(Tree tree) {
        Class<? extends Tree> form = tree.getKind().asInterface();
        return form == UnaryTree.class || form == BinaryTree.class || form == CompoundAssignmentTree.class;
    }

    /** By name, since Java 17 has no settled word for it. */
    private static boolean isCaseLabel(Tree tree) {
        return tree.getKind().name().endsWith("CASE_LABEL");
    }

    private static void noRecursion() {
        Check.sentence("8. No recursion, neither direct nor through other methods.");
        for (String method : source.calls.keySet()) {
            Check.due(method + " comes to no end", source.depth(method) > source.calls.size(), false);
        }
    }

    private static void loops() {
        Check.sentence("8. Every loop has an end that can be seen from its own lines (a counter against a bound).");
        for (ForLoopTree loop : source.all(ForLoopTree.class)) {
            Check.due(source.where(loop) + " has a bound", loop.getCondition() instanceof BinaryTree, true);
            Check.due(source.where(loop) + " has a counter", loop.getInitializer().size(), 1);
            Check.due(source.where(loop) + " counts", loop.getUpdate().size(), 1);
        }
    }

    private static void parameters() {
        Check.sentence("10. A method takes at most seven parameters");
        for (MethodTree method : source.methods) {
            Check.due(method.getName() + " takes too many", method.getParameters().size() > 7, false);
        }
    }

    private static void callsInArguments() {
        Check.sentence("10. no call stands inside the arguments of another call");
        for (MethodInvocationTree call : source.all(MethodInvocationTree.class)) {
            for (ExpressionTree argument : call.getArguments()) {
                for (Tree tree : Source.below(argument)) {
                    Check.due(source.where(call), tree.getKind() == Tree.Kind.METHOD_INVOCATION, false);
                }
            }
        }
    }

    private static void shortMethods() {
        Check.sentence("10. Methods stay short (some sixty lines)");
        for (MethodTree method : source.methods) {
            Check.due(method.getName() + " is too long", source.lines(method) > 60, false);
        }
    }

    private static void shallowCalls() {
        Check.sentence("10. calls go at most six deep");
        for (String method : source.calls.keySet()) {
            Check.due(method + " calls too deep", source.depth(method) > 6, false);
        }
    }

    private static void fewFields() {
        Check.sentence("10. the class has at most some forty fields beside its constants");
        Check.due("too many fields", source.fields.size() - constants().size() > 40, false);
    }
}
