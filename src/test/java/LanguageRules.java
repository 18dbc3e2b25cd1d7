import com.sun.source.tree.*;
import com.sun.source.util.JavacTask;
import com.sun.source.util.SourcePositions;
import com.sun.source.util.TreeScanner;
import com.sun.source.util.Trees;
import java.io.IOException;
import java.net.URI;
import java.util.ArrayList;
import java.util.Collections;
import java.util.HashSet;
import java.util.List;
import java.util.Map;
import java.util.Set;
import java.util.TreeMap;
import java.util.TreeSet;
import javax.lang.model.element.Modifier;
import javax.lang.model.type.TypeKind;
import javax.tools.DiagnosticCollector;
import javax.tools.JavaFileObject;
import javax.tools.SimpleJavaFileObject;
import javax.tools.ToolProvider;

/**
 * Finds where a source text breaks a rule of LANGUAGE.md that can be seen from the text. It is here and
 * there narrower than the rule (no array but a field's, no loop but a counted one), because TraceDebugger
 * needs no more and the narrower rule is plain to see. What reflection shows is left to FaceTest; that no
 * index is outside its array (rule 7) is left to the tests that call the class.
 */
final class LanguageRules extends TreeScanner<Void, Void> {
    private static final int MOST_LINES = 60;
    private static final int DEEPEST_CALLS = 6;

    private final CompilationUnitTree unit;
    private final SourcePositions positions;
    private final List<String> breaches = new ArrayList<>();
    private final Map<String, Set<String>> callsOf = new TreeMap<>();
    private final Set<String> constants = new HashSet<>();
    private final Set<String> arrayFields = new HashSet<>();
    private final Set<Tree> arraysOfFields = new HashSet<>();
    private Set<String> callsHere = new TreeSet<>();
    private boolean insideArguments = false;

    private LanguageRules(CompilationUnitTree unit, SourcePositions positions) {
        this.unit = unit;
        this.positions = positions;
    }

    /** Each begins with the number of its rule. */
    static List<String> breaches(String source) throws IOException {
        JavaFileObject file = new SimpleJavaFileObject(URI.create("string:///TraceDebugger.java"),
            JavaFileObject.Kind.SOURCE) {
            @Override
            public CharSequence getCharContent(boolean ignoreEncodingErrors) {
                return source;
            }
        };
        DiagnosticCollector<JavaFileObject> diagnostics = new DiagnosticCollector<>();
        JavacTask task = (JavacTask) ToolProvider.getSystemJavaCompiler()
            .getTask(null, null, diagnostics, Collections.singletonList("-proc:none"), null,
                Collections.singletonList(file));
        CompilationUnitTree unit = task.parse().iterator().next();
        if (!diagnostics.getDiagnostics().isEmpty()) {
            throw new IllegalArgumentException(diagnostics.getDiagnostics().toString());
        }
        LanguageRules rules = new LanguageRules(unit, Trees.instance(task).getSourcePositions());
        rules.scan(unit, null);
        rules.checkCalls();
        return rules.breaches;
    }

    private void breach(int rule, Tree where, String what) {
        breaches.add(rule + ": line " + line(positions.getStartPosition(unit, where)) + ": " + what);
    }

    private long line(long position) {
        return unit.getLineMap().getLineNumber(position);
    }

    @Override
    public Void visitCompilationUnit(CompilationUnitTree tree, Void unused) {
        if (tree.getPackage() != null) {
            breach(1, tree.getPackage(), "a package line");
        }
        if (!tree.getImports().isEmpty()) {
            breach(3, tree.getImports().get(0), "an import");
        }
        if (tree.getTypeDecls().size() != 1) {
            breach(1, tree, "not one class");
        }
        scan(tree.getTypeDecls(), null);
        return null;
    }

    @Override
    public Void visitClass(ClassTree tree, Void unused) {
        if (!unit.getTypeDecls().contains(tree)) {
            breach(1, tree, "a nested class");
            return null;
        }
        for (Tree member : tree.getMembers()) {
            if (member instanceof VariableTree) {
                checkField((VariableTree) member);
            } else if (member instanceof MethodTree) {
                checkMethod((MethodTree) member);
            } else if (member instanceof BlockTree) {
                breach(5, member, "an initialiser");
            }
        }
        return super.visitClass(tree, null);
    }

    private void checkField(VariableTree field) {
        Set<Modifier> modifiers = field.getModifiers().getFlags();
        boolean isArray = field.getType() instanceof ArrayTypeTree;
        if (modifiers.contains(Modifier.STATIC) && !isArray && isConstant(field)) {
            constants.add(field.getName().toString());
        } else if (modifiers.contains(Modifier.STATIC)) {
            breach(5, field, "a static field that is no constant");
        }
        if (isArray) {
            arrayFields.add(field.getName().toString());
            arraysOfFields.add(field.getType());
            arraysOfFields.add(field.getInitializer());
            if (!modifiers.contains(Modifier.FINAL)) {
                breach(4, field, "an array field that can be assigned to");
            }
        }
    }

    private static boolean isConstant(VariableTree field) {
        Tree value = field.getInitializer();
        return field.getModifiers().getFlags().contains(Modifier.FINAL)
            && (value instanceof LiteralTree || value instanceof IdentifierTree || value instanceof UnaryTree
                || value instanceof BinaryTree);
    }

    private void checkMethod(MethodTree method) {
        callsOf.put(method.getName().toString(), new TreeSet<>());
        if (!method.getThrows().isEmpty()) {
            breach(6, method, "throws");
        }
        if (method.getModifiers().getFlags().contains(Modifier.SYNCHRONIZED)) {
            breach(6, method, "synchronized");
        }
        long lines = line(positions.getEndPosition(unit, method)) - line(positions.getStartPosition(unit, method)) + 1;
        if (lines > MOST_LINES) {
            breach(10, method, "a method of " + lines + " lines");
        }
    }

    @Override
    public Void visitMethod(MethodTree tree, Void unused) {
        callsHere = callsOf.get(tree.getName().toString());
        if (tree.getReturnType() != null && !(tree.getReturnType() instanceof PrimitiveTypeTree)) {
            breach(4, tree, "answers something that is no number");
        }
        return super.visitMethod(tree, null);
    }

    // Types and values

    @Override
    public Void visitVariable(VariableTree tree, Void unused) {
        if (!(tree.getType() instanceof PrimitiveTypeTree) && !(tree.getType() instanceof ArrayTypeTree)) {
            breach(2, tree, "a variable of another type than numbers and arrays");
        }
        return super.visitVariable(tree, null);
    }

    @Override
    public Void visitArrayType(ArrayTypeTree tree, Void unused) {
        if (!(tree.getType() instanceof PrimitiveTypeTree)) {
            breach(2, tree, "an array of something else than numbers");
        }
        if (!arraysOfFields.contains(tree)) {
            breach(4, tree, "an array that is no field's");
        }
        return super.visitArrayType(tree, null);
    }

    @Override
    public Void visitPrimitiveType(PrimitiveTypeTree tree, Void unused) {
        if (tree.getPrimitiveTypeKind() == TypeKind.FLOAT || tree.getPrimitiveTypeKind() == TypeKind.DOUBLE) {
            breach(2, tree, "float or double");
        }
        return null;
    }

    @Override
    public Void visitLiteral(LiteralTree tree, Void unused) {
        Object value = tree.getValue();
        if (value == null) {
            breach(4, tree, "null");
        } else if (value instanceof String || value instanceof Float || value instanceof Double) {
            breach(2, tree, "a String, float or double");
        }
        return null;
    }

    @Override
    public Void visitNewArray(NewArrayTree tree, Void unused) {
        if (!arraysOfFields.contains(tree)) {
            breach(4, tree, "an array made elsewhere than in a field's initialiser");
        }
        if (tree.getInitializers() != null || tree.getDimensions().size() != 1
            || !isLength(tree.getDimensions().get(0))) {
            breach(4, tree, "an array's length is neither a literal, 1 or more, nor a constant");
        }
        return super.visitNewArray(tree, null);
    }

    private boolean isLength(Tree tree) {
        return tree instanceof LiteralTree ? !tree.toString().equals("0") : constants.contains(tree.toString());
    }

    @Override
    public Void visitArrayAccess(ArrayAccessTree tree, Void unused) {
        if (!(tree.getExpression() instanceof IdentifierTree)) {
            scan(tree.getExpression(), null);
        }
        return scan(tree.getIndex(), null);
    }

    @Override
    public Void visitIdentifier(IdentifierTree tree, Void unused) {
        if (arrayFields.contains(tree.getName().toString())) {
            breach(4, tree, "an array is used as a whole");
        }
        return null;
    }

    // Statements and expressions that are ruled out

    @Override
    public Void scan(Tree tree, Void unused) {
        if (tree != null) {
            checkKind(tree);
        }
        return super.scan(tree, null);
    }

    private void checkKind(Tree tree) {
        String kind = tree.getKind().toString();
        switch (tree.getKind()) {
            case MEMBER_SELECT:
                // The class names its own members plainly, so a dot can only lead out of it.
                breach(3, tree, kind);
                break;
            case NEW_CLASS:
                breach(4, tree, kind);
                break;
            case THROW: case TRY: case SYNCHRONIZED: case ASSERT: case INSTANCE_OF: case LAMBDA_EXPRESSION:
            case MEMBER_REFERENCE:
                breach(6, tree, kind);
                break;
            case DIVIDE: case REMAINDER: case DIVIDE_ASSIGNMENT: case REMAINDER_ASSIGNMENT:
                breach(7, tree, kind);
                break;
            case WHILE_LOOP: case DO_WHILE_LOOP: case ENHANCED_FOR_LOOP:
                breach(8, tree, kind);
                break;
            default:
                break;
        }
    }

    @Override
    public Void visitTypeCast(TypeCastTree tree, Void unused) {
        if (!(tree.getType() instanceof PrimitiveTypeTree)) {
            breach(6, tree, "a cast of a reference");
        }
        return super.visitTypeCast(tree, null);
    }

    // Loops

    @Override
    public Void visitForLoop(ForLoopTree tree, Void unused) {
        if (!countsToABound(tree)) {
            breach(8, tree, "a loop that does not count");
        }
        return super.visitForLoop(tree, null);
    }

    private static boolean countsToABound(ForLoopTree loop) {
        Tree condition = withoutParentheses(loop.getCondition());
        if (!(condition instanceof BinaryTree) || loop.getInitializer().size() != 1
            || !(loop.getInitializer().get(0) instanceof VariableTree) || loop.getUpdate().size() != 1) {
            return false;
        }
        String counter = ((VariableTree) loop.getInitializer().get(0)).getName().toString();
        Tree bound = ((BinaryTree) condition).getRightOperand();
        Set<String> changed = changedIn(loop.getStatement());
        return ((BinaryTree) condition).getLeftOperand().toString().equals(counter) && isNamedOrLiteral(bound)
            && isStep(condition.getKind(), loop.getUpdate().get(0), counter)
            && !changed.contains(counter) && !changed.contains(bound.toString());
    }

    private static Tree withoutParentheses(Tree tree) {
        return tree instanceof ParenthesizedTree ? ((ParenthesizedTree) tree).getExpression() : tree;
    }

    private static boolean isNamedOrLiteral(Tree tree) {
        return tree instanceof LiteralTree || tree instanceof IdentifierTree;
    }

    private static boolean isStep(Tree.Kind comparison, ExpressionStatementTree update, String counter) {
        String step = update.getExpression().toString();
        switch (comparison) {
            case LESS_THAN: case LESS_THAN_EQUAL:
                return step.equals(counter + "++");
            case GREATER_THAN: case GREATER_THAN_EQUAL:
                return step.equals(counter + "--");
            default:
                return false;
        }
    }

    private static Set<String> changedIn(Tree body) {
        Set<String> changed = new TreeSet<>();
        new TreeScanner<Void, Void>() {
            @Override
            public Void visitAssignment(AssignmentTree tree, Void unused) {
                changed.add(tree.getVariable().toString());
                return super.visitAssignment(tree, null);
            }

            @Override
            public Void visitCompoundAssignment(CompoundAssignmentTree tree, Void unused) {
                changed.add(tree.getVariable().toString());
                return super.visitCompoundAssignment(tree, null);
            }

            @Override
            public Void visitUnary(UnaryTree tree, Void unused) {
                // A sign or a ! counts as a change, too, which only makes the rule narrower.
                changed.add(tree.getExpression().toString());
                return super.visitUnary(tree, null);
            }
        }.scan(body, null);
        return changed;
    }

    // Calls

    @Override
    public Void visitMethodInvocation(MethodInvocationTree tree, Void unused) {
        String name = tree.getMethodSelect().toString();
        if (callsOf.containsKey(name)) {
            callsHere.add(name);
        } else {
            breach(3, tree, "a call of something that is not of this class");
        }
        if (insideArguments) {
            breach(10, tree, "a call inside the arguments of another one");
        }
        boolean before = insideArguments;
        insideArguments = true;
        scan(tree.getArguments(), null);
        insideArguments = before;
        return null;
    }

    private void checkCalls() {
        for (String method : callsOf.keySet()) {
            follow(method, new ArrayList<>());
        }
    }

    private void follow(String method, List<String> callers) {
        if (callers.contains(method)) {
            breaches.add("8: recursion: " + callers + " call " + method);
            return;
        }
        List<String> chain = new ArrayList<>(callers);
        chain.add(method);
        if (chain.size() > DEEPEST_CALLS) {
            breaches.add("10: calls too deep: " + chain);
            return;
        }
        for (String called : callsOf.get(method)) {
            follow(called, chain);
        }
    }
}
