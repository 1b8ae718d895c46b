import com.sun.source.tree.ArrayAccessTree;
import com.sun.source.tree.ArrayTypeTree;
import com.sun.source.tree.AssignmentTree;
import com.sun.source.tree.BinaryTree;
import com.sun.source.tree.ClassTree;
import com.sun.source.tree.CompilationUnitTree;
import com.sun.source.tree.CompoundAssignmentTree;
import com.sun.source.tree.ExpressionStatementTree;
import com.sun.source.tree.ExpressionTree;
import com.sun.source.tree.ForLoopTree;
import com.sun.source.tree.IdentifierTree;
import com.sun.source.tree.MethodInvocationTree;
import com.sun.source.tree.MethodTree;
import com.sun.source.tree.NewArrayTree;
import com.sun.source.tree.PrimitiveTypeTree;
import com.sun.source.tree.Tree;
import com.sun.source.tree.Tree.Kind;
import com.sun.source.tree.UnaryTree;
import com.sun.source.tree.VariableTree;
import com.sun.source.util.JavacTask;
import com.sun.source.util.TreeScanner;
import com.sun.source.util.Trees;
import java.nio.file.Path;
import java.util.EnumSet;
import java.util.List;
import java.util.Map;
import java.util.Set;
import java.util.TreeMap;
import java.util.TreeSet;
import javax.lang.model.element.Modifier;
import javax.lang.model.type.TypeKind;
import javax.tools.JavaCompiler;
import javax.tools.StandardJavaFileManager;
import javax.tools.ToolProvider;

// Reads the class's source with the compiler's parser and looks for what
// ../shared/LANGUAGE.md rules out. Where a rule leaves a form that the class has no
// use for (while, arrays as arguments, casts), the test refuses the form: a plainer
// test, and what it lets through is inside the rules. FaceTests has the rules that
// show in the compiled members; rule 7 is seen by calling, in the other tests.
public final class LanguageTests {
    private static final int MOST_LINES = 60;
    private static final int DEEPEST = 6;

    private static int wrong = 0;
    private static CompilationUnitTree unit;
    private static Trees trees;

    private static final Map<String, MethodTree> METHODS = new TreeMap<>();
    private static final Set<String> CONSTANTS = new TreeSet<>();
    private static final Set<String> FIELDS = new TreeSet<>();
    private static final Set<String> ARRAYS = new TreeSet<>();

    private static final Set<Kind> STATEMENTS = EnumSet.of(Kind.BLOCK, Kind.EXPRESSION_STATEMENT, Kind.VARIABLE,
        Kind.IF, Kind.FOR_LOOP, Kind.RETURN, Kind.BREAK, Kind.CONTINUE);
    private static final Set<Kind> VALUES = EnumSet.of(Kind.IDENTIFIER, Kind.INT_LITERAL, Kind.BOOLEAN_LITERAL,
        Kind.ARRAY_ACCESS, Kind.METHOD_INVOCATION, Kind.PARENTHESIZED, Kind.CONDITIONAL_EXPRESSION,
        Kind.ASSIGNMENT, Kind.AND_ASSIGNMENT, Kind.OR_ASSIGNMENT, Kind.PLUS_ASSIGNMENT, Kind.MINUS_ASSIGNMENT,
        Kind.POSTFIX_INCREMENT, Kind.POSTFIX_DECREMENT, Kind.UNARY_MINUS, Kind.LOGICAL_COMPLEMENT,
        Kind.BITWISE_COMPLEMENT, Kind.PLUS, Kind.MINUS, Kind.MULTIPLY, Kind.LEFT_SHIFT, Kind.RIGHT_SHIFT,
        Kind.AND, Kind.OR, Kind.XOR, Kind.CONDITIONAL_AND, Kind.CONDITIONAL_OR, Kind.EQUAL_TO, Kind.NOT_EQUAL_TO,
        Kind.LESS_THAN, Kind.LESS_THAN_EQUAL, Kind.GREATER_THAN, Kind.GREATER_THAN_EQUAL);
    private static final Set<Kind> STEPS = EnumSet.of(Kind.POSTFIX_INCREMENT, Kind.POSTFIX_DECREMENT);
    private static final Set<Kind> FRAME = EnumSet.of(Kind.MODIFIERS, Kind.METHOD, Kind.PRIMITIVE_TYPE);

    private static void must(boolean holds, int rule, Tree where, String what) {
        if (!holds) {
            wrong++;
            long line = unit.getLineMap().getLineNumber(trees.getSourcePositions().getStartPosition(unit, where));
            System.out.println("line " + line + ", rule " + rule + ": not so: " + what);
        }
    }

    private static boolean isArray(VariableTree variable) {
        return variable.getType() instanceof ArrayTypeTree;
    }

    private static boolean isConstant(VariableTree field) {
        return field.getModifiers().getFlags().containsAll(Set.of(Modifier.STATIC, Modifier.FINAL));
    }

    private static void checkUnit() {
        must(unit.getPackage() == null, 1, unit, "there is no package line");
        must(unit.getImports().isEmpty(), 3, unit, "nothing is imported");
        must(unit.getTypeDecls().size() == 1, 1, unit, "there is one class");
    }

    private static void collect(ClassTree c) {
        for (Tree member : c.getMembers()) {
            if (member instanceof MethodTree method) {
                must(!METHODS.containsKey(method.getName().toString()), 1, method,
                    "method " + method.getName() + " has a name of its own");
                METHODS.put(method.getName().toString(), method);
            } else if (member instanceof VariableTree field) {
                (isConstant(field) ? CONSTANTS : isArray(field) ? ARRAYS : FIELDS).add(field.getName().toString());
            } else {
                must(false, 1, member, "members are fields and methods");
            }
        }
    }

    private static void checkField(VariableTree field) {
        if (isArray(field)) {
            must(field.getModifiers().getFlags().contains(Modifier.FINAL), 4, field, "an array field is final");
            must(((ArrayTypeTree) field.getType()).getType() instanceof PrimitiveTypeTree, 2, field,
                "an array has one dimension and holds numbers or booleans");
            checkNewArray(field);
        } else {
            must(field.getType() instanceof PrimitiveTypeTree, 2, field, "a field is a number, a boolean or an array");
            checkCode(field.getInitializer());
        }
        checkCode(field.getType() instanceof ArrayTypeTree array ? array.getType() : field.getType());
    }

    private static void checkNewArray(VariableTree field) {
        boolean made = field.getInitializer() instanceof NewArrayTree array
            && array.getInitializers() == null && array.getDimensions().size() == 1
            && array.getDimensions().get(0) instanceof IdentifierTree length
            && CONSTANTS.contains(length.getName().toString());
        must(made, 4, field, "an array is made where its field stands, with a constant length");
    }

    private static void checkMethod(MethodTree method) {
        long first = trees.getSourcePositions().getStartPosition(unit, method);
        long last = trees.getSourcePositions().getEndPosition(unit, method);
        long lines = unit.getLineMap().getLineNumber(last) - unit.getLineMap().getLineNumber(first) + 1;
        must(lines <= MOST_LINES, 10, method, method.getName() + " is short; it has " + lines + " lines");
        must(method.getThrows().isEmpty(), 6, method, method.getName() + " throws nothing");
        must(method.getParameters().size() <= 7, 10, method, method.getName() + " takes at most seven parameters");
        checkCode(method);
    }

    // Names of the library can stand only in a type, in front of a dot or after new,
    // and all three are forms that are not let through.
    private static void checkCode(Tree code) {
        new TreeScanner<Void, Void>() {
            @Override
            public Void scan(Tree tree, Void unused) {
                if (tree != null) {
                    Kind kind = tree.getKind();
                    must(STATEMENTS.contains(kind) || VALUES.contains(kind) || FRAME.contains(kind), 9, tree,
                        "code is of plain forms; here is " + kind);
                }
                return super.scan(tree, unused);
            }

            @Override
            public Void visitVariable(VariableTree variable, Void unused) {
                must(variable.getType() instanceof PrimitiveTypeTree, 2, variable,
                    variable.getName() + " is a number or a boolean");
                return super.visitVariable(variable, unused);
            }

            @Override
            public Void visitPrimitiveType(PrimitiveTypeTree type, Void unused) {
                TypeKind kind = type.getPrimitiveTypeKind();
                must(kind != TypeKind.FLOAT && kind != TypeKind.DOUBLE, 2, type, "there are no fractions");
                return super.visitPrimitiveType(type, unused);
            }

            // Only what stands in an array is used: none is compared, answered or renamed.
            @Override
            public Void visitArrayAccess(ArrayAccessTree place, Void unused) {
                must(place.getExpression() instanceof IdentifierTree, 4, place, "an array is named by its field");
                return scan(place.getIndex(), unused);
            }

            @Override
            public Void visitIdentifier(IdentifierTree name, Void unused) {
                must(!ARRAYS.contains(name.getName().toString()), 4, name, name + " is used place by place");
                return super.visitIdentifier(name, unused);
            }

            @Override
            public Void visitMethodInvocation(MethodInvocationTree call, Void unused) {
                must(METHODS.containsKey(nameOf(call)), 3, call, "what is called is a method of the class");
                for (ExpressionTree argument : call.getArguments()) {
                    must(callsIn(argument).isEmpty(), 10, call, "no call stands inside the arguments of another");
                }
                return super.visitMethodInvocation(call, unused);
            }

            @Override
            public Void visitForLoop(ForLoopTree loop, Void unused) {
                must(hasEnd(loop), 8, loop, "the loop counts up to a bound that it doesn't change");
                return super.visitForLoop(loop, unused);
            }
        }.scan(code, null);
    }

    private static String nameOf(MethodInvocationTree call) {
        return call.getMethodSelect() instanceof IdentifierTree name ? name.getName().toString() : "";
    }

    private static Set<String> callsIn(Tree code) {
        Set<String> names = new TreeSet<>();
        new TreeScanner<Void, Void>() {
            @Override
            public Void visitMethodInvocation(MethodInvocationTree call, Void unused) {
                names.add(nameOf(call));
                return super.visitMethodInvocation(call, unused);
            }
        }.scan(code, null);
        return names;
    }

    private static Set<String> namesIn(Tree code) {
        Set<String> names = new TreeSet<>();
        new TreeScanner<Void, Void>() {
            @Override
            public Void visitIdentifier(IdentifierTree name, Void unused) {
                names.add(name.getName().toString());
                return super.visitIdentifier(name, unused);
            }
        }.scan(code, null);
        return names;
    }

    private static Set<String> changedIn(Tree code) {
        Set<String> names = new TreeSet<>();
        new TreeScanner<Void, Void>() {
            private void change(ExpressionTree target) {
                // What stands at an array's place changes, not the number of the place.
                names.addAll(namesIn(target instanceof ArrayAccessTree place ? place.getExpression() : target));
            }

            @Override
            public Void visitAssignment(AssignmentTree assignment, Void unused) {
                change(assignment.getVariable());
                return super.visitAssignment(assignment, unused);
            }

            @Override
            public Void visitCompoundAssignment(CompoundAssignmentTree assignment, Void unused) {
                change(assignment.getVariable());
                return super.visitCompoundAssignment(assignment, unused);
            }

            @Override
            public Void visitUnary(UnaryTree unary, Void unused) {
                if (STEPS.contains(unary.getKind())) {
                    change(unary.getExpression());
                }
                return super.visitUnary(unary, unused);
            }
        }.scan(code, null);
        return names;
    }

    // A bound may be a field, so fields that called methods change count too.
    private static Set<String> changedBy(Tree code) {
        Set<String> changed = new TreeSet<>();
        for (String called : reachedFrom(callsIn(code))) {
            changed.addAll(changedIn(METHODS.get(called)));
        }
        changed.retainAll(FIELDS);
        changed.addAll(changedIn(code));
        return changed;
    }

    private static Set<String> reachedFrom(Set<String> names) {
        Set<String> reached = new TreeSet<>();
        Set<String> next = new TreeSet<>(names);
        next.retainAll(METHODS.keySet());
        while (!next.isEmpty()) {
            reached.addAll(next);
            Set<String> further = new TreeSet<>();
            for (String name : next) {
                further.addAll(callsIn(METHODS.get(name)));
            }
            further.retainAll(METHODS.keySet());
            further.removeAll(reached);
            next = further;
        }
        return reached;
    }

    private static boolean hasEnd(ForLoopTree loop) {
        if (!(loop.getCondition() instanceof BinaryTree condition) || condition.getKind() != Kind.LESS_THAN
            || !(condition.getLeftOperand() instanceof IdentifierTree counter) || loop.getUpdate().size() != 1) {
            return false;
        }
        ExpressionStatementTree update = loop.getUpdate().get(0);
        boolean countsUp = update.getExpression() instanceof UnaryTree step && step.getKind() == Kind.POSTFIX_INCREMENT
            && namesIn(step).equals(Set.of(counter.getName().toString()));
        Set<String> moved = changedBy(loop.getStatement());
        moved.retainAll(namesIn(condition));
        return countsUp && moved.isEmpty() && callsIn(condition).isEmpty();
    }

    // Peels off, level by level, the methods that call only what was peeled before;
    // what is left calls itself, directly or through others.
    private static void checkDepth() {
        Map<String, Integer> depths = new TreeMap<>();
        boolean grown = true;
        while (grown) {
            grown = false;
            for (Map.Entry<String, MethodTree> method : METHODS.entrySet()) {
                Set<String> called = callsIn(method.getValue());
                called.retainAll(METHODS.keySet());
                if (!depths.containsKey(method.getKey()) && depths.keySet().containsAll(called)) {
                    int below = called.stream().mapToInt(depths::get).max().orElse(0);
                    depths.put(method.getKey(), below + 1);
                    grown = true;
                }
            }
        }
        METHODS.forEach((name, method) -> {
            must(depths.containsKey(name), 8, method, name + " doesn't come back to itself");
            must(depths.getOrDefault(name, 0) <= DEEPEST, 10, method, "calls from " + name + " go at most six deep");
        });
    }

    public static void main(String[] args) throws Exception {
        JavaCompiler compiler = ToolProvider.getSystemJavaCompiler();
        StandardJavaFileManager files = compiler.getStandardFileManager(null, null, null);
        JavacTask task = (JavacTask) compiler.getTask(null, files, null, List.of("-proc:none"), null,
            files.getJavaFileObjects(Path.of("src/main/java/PlanLayers.java")));
        unit = task.parse().iterator().next();
        trees = Trees.instance(task);
        checkUnit();
        ClassTree c = (ClassTree) unit.getTypeDecls().get(0);
        collect(c);
        for (Tree member : c.getMembers()) {
            if (member instanceof VariableTree field) {
                checkField(field);
            }
        }
        METHODS.values().forEach(LanguageTests::checkMethod);
        checkDepth();
        System.out.println(wrong == 0 ? "the source keeps to the rules" : wrong + " things are not as due");
        if (wrong != 0) {
            System.exit(1);
        }
    }
}
