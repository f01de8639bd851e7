import com.sun.source.tree.ArrayAccessTree;
import com.sun.source.tree.ArrayTypeTree;
import com.sun.source.tree.AssignmentTree;
import com.sun.source.tree.BinaryTree;
import com.sun.source.tree.ClassTree;
import com.sun.source.tree.CompilationUnitTree;
import com.sun.source.tree.CompoundAssignmentTree;
import com.sun.source.tree.DoWhileLoopTree;
import com.sun.source.tree.ExpressionTree;
import com.sun.source.tree.ForLoopTree;
import com.sun.source.tree.IdentifierTree;
import com.sun.source.tree.LiteralTree;
import com.sun.source.tree.MethodInvocationTree;
import com.sun.source.tree.MethodTree;
import com.sun.source.tree.NewArrayTree;
import com.sun.source.tree.Tree;
import com.sun.source.tree.Tree.Kind;
import com.sun.source.tree.TypeCastTree;
import com.sun.source.tree.UnaryTree;
import com.sun.source.tree.VariableTree;
import com.sun.source.tree.WhileLoopTree;
import com.sun.source.util.JavacTask;
import com.sun.source.util.SourcePositions;
import com.sun.source.util.TreeScanner;
import com.sun.source.util.Trees;
import java.io.IOException;
import java.io.Writer;
import java.nio.file.Path;
import java.util.EnumSet;
import java.util.HashMap;
import java.util.HashSet;
import java.util.List;
import java.util.Map;
import java.util.Set;
import java.util.TreeSet;
import javax.lang.model.element.Modifier;
import javax.tools.JavaCompiler;
import javax.tools.StandardJavaFileManager;
import javax.tools.ToolProvider;

/**
 * What the rules of LANGUAGE.md ask of the source (to be run from the project's root), in places more strictly:
 * an array is made where its field is declared and then only indexed, loops are for loops, and a divisor is a
 * constant. Not seen here: that every index lies inside its array (7), which is left to the tests that call. The
 * public face (1) is FaceTest's.
 */
public final class LanguageTest {
    private static final Path SOURCE = Path.of("src/main/java/AffineInvariants.java");
    private static final Set<String> TYPES = Set.of("int", "long", "short", "byte", "char", "boolean");
    private static final Set<Kind> FORBIDDEN = EnumSet.of(Kind.THROW, Kind.TRY, Kind.CATCH, Kind.SYNCHRONIZED,
            Kind.ASSERT, Kind.INSTANCE_OF, Kind.LAMBDA_EXPRESSION, Kind.MEMBER_REFERENCE, Kind.NEW_CLASS,
            Kind.NULL_LITERAL, Kind.STRING_LITERAL, Kind.FLOAT_LITERAL, Kind.DOUBLE_LITERAL, Kind.ANNOTATION,
            Kind.PARAMETERIZED_TYPE, Kind.INTERFACE, Kind.ENUM, Kind.RECORD, Kind.MEMBER_SELECT);
    private static final int MOST_PARAMETERS = 7;
    private static final int MOST_LINES = 60;
    private static final int MOST_FIELDS = 40;
    private static final int DEEPEST = 6;

    private static int wrong = 0;
    private static CompilationUnitTree unit;
    private static SourcePositions positions;
    private static final Map<String, MethodTree> methods = new HashMap<>();
    private static final Map<String, Set<String>> calls = new HashMap<>();
    private static final Set<String> positive = new HashSet<>();
    private static final Set<String> arrays = new HashSet<>();

    private static long line(long position) {
        return unit.getLineMap().getLineNumber(position);
    }

    private static void keep(int rule, boolean kept, Tree tree, String what) {
        if (!kept) {
            wrong++;
            System.out.println("rule " + rule + ", line " + line(positions.getStartPosition(unit, tree)) + ": " + what);
        }
    }

    public static void main(String[] args) throws IOException {
        JavaCompiler compiler = ToolProvider.getSystemJavaCompiler();
        try (StandardJavaFileManager files = compiler.getStandardFileManager(null, null, null)) {
            JavacTask task = (JavacTask) compiler.getTask(Writer.nullWriter(), files, null, List.of("-proc:none"), null,
                    files.getJavaFileObjects(SOURCE));
            unit = task.parse().iterator().next();
            positions = Trees.instance(task).getSourcePositions();
            keepTheFile();
        }
        System.out.println(wrong == 0 ? "the rules are kept" : wrong + " places do not keep to the rules");
        if (wrong != 0) {
            System.exit(1);
        }
    }

    private static void keepTheFile() {
        keep(1, unit.getPackage() == null, unit, "a package line");
        keep(3, unit.getImports().isEmpty(), unit, "an import");
        keep(1, unit.getTypeDecls().size() == 1, unit, "more than one class");
        ClassTree type = (ClassTree) unit.getTypeDecls().get(0);
        keep(1, type.getExtendsClause() == null && type.getImplementsClause().isEmpty(), type, "a class above");
        for (Tree member : type.getMembers()) {
            collect(member);
        }
        int fields = 0;
        for (Tree member : type.getMembers()) {
            if (member instanceof VariableTree field) {
                keepField(field);
                fields += isStatic(field) ? 0 : 1;
            } else if (member instanceof MethodTree method) {
                keepMethod(method);
            } else {
                keep(member.getKind() == Kind.BLOCK ? 5 : 1, false, member, "neither a field nor a method");
            }
        }
        keep(10, fields <= MOST_FIELDS, type, fields + " fields");
        for (String name : new TreeSet<>(methods.keySet())) {
            int deep = depth(name, new HashSet<>());
            keep(10, deep <= DEEPEST, methods.get(name), name + " goes " + deep + " methods deep");
        }
    }

    private static void collect(Tree member) {
        if (member instanceof MethodTree method) {
            String name = method.getName().toString();
            keep(1, methods.put(name, method) == null, method, "two methods named " + name);
        } else if (member instanceof VariableTree field) {
            String name = field.getName().toString();
            if (field.getType() instanceof ArrayTypeTree) {
                arrays.add(name);
            } else if (isStatic(field) && isPositive(field.getInitializer())) {
                positive.add(name);
            }
        }
    }

    private static boolean isStatic(VariableTree field) {
        return field.getModifiers().getFlags().contains(Modifier.STATIC);
    }

    private static boolean isPositive(ExpressionTree number) {
        if (number instanceof LiteralTree literal) {
            return literal.getValue() instanceof Integer value && value > 0;
        }
        return number instanceof IdentifierTree name && positive.contains(name.getName().toString());
    }

    private static boolean isLiteral(ExpressionTree number) {
        boolean isNegative = number != null && number.getKind() == Kind.UNARY_MINUS;
        return (isNegative ? ((UnaryTree) number).getExpression() : number) instanceof LiteralTree;
    }

    private static void keepField(VariableTree field) {
        String name = field.getName().toString();
        keepType(field.getType());
        if (isStatic(field)) {
            String type = field.getType().toString();
            boolean isFinal = field.getModifiers().getFlags().contains(Modifier.FINAL);
            boolean isNumber = (type.equals("int") || type.equals("long")) && isLiteral(field.getInitializer());
            keep(5, isFinal && isNumber, field, name + " is no constant number");
        }
        if (field.getType() instanceof ArrayTypeTree) {
            boolean made = field.getInitializer() instanceof NewArrayTree array && array.getInitializers() == null
                    && array.getDimensions().size() == 1 && isPositive(array.getDimensions().get(0));
            keep(4, made, field, name + " is not made with a constant length where it is declared");
            boolean isFinal = field.getModifiers().getFlags().contains(Modifier.FINAL);
            keep(4, isFinal, field, name + " could be assigned to");
        } else if (field.getInitializer() != null) {
            keepBody(field.getInitializer(), "");
        }
    }

    private static void keepType(Tree type) {
        Tree of = type instanceof ArrayTypeTree array ? array.getType() : type;
        keep(2, TYPES.contains(of.toString()), type, "the type " + type);
    }

    private static void keepNumber(VariableTree variable) {
        keepType(variable.getType());
        keep(4, !(variable.getType() instanceof ArrayTypeTree), variable, variable.getName() + " names an array");
    }

    private static void keepMethod(MethodTree method) {
        String name = method.getName().toString();
        if (method.getReturnType() != null && !method.getReturnType().toString().equals("void")) {
            keepType(method.getReturnType());
            keep(4, !(method.getReturnType() instanceof ArrayTypeTree), method, name + " answers an array");
        }
        Set<Modifier> flags = method.getModifiers().getFlags();
        keep(6, !flags.contains(Modifier.SYNCHRONIZED), method, name + " is synchronized");
        keep(10, method.getParameters().size() <= MOST_PARAMETERS, method, name + " has too many parameters");
        long lines = line(positions.getEndPosition(unit, method)) - line(positions.getStartPosition(unit, method)) + 1;
        keep(10, lines <= MOST_LINES, method, name + " has " + lines + " lines");
        calls.put(name, new TreeSet<>());
        for (VariableTree parameter : method.getParameters()) {
            keepNumber(parameter);
        }
        keepBody(method.getBody(), name);
    }

    private static void keepBody(Tree body, String method) {
        new TreeScanner<Void, Boolean>() {
            @Override
            public Void scan(Tree tree, Boolean inArguments) {
                if (tree != null) {
                    keep(6, !FORBIDDEN.contains(tree.getKind()), tree, tree.getKind() + " is left out of the language");
                }
                return super.scan(tree, inArguments);
            }

            @Override
            public Void visitVariable(VariableTree variable, Boolean inArguments) {
                keepNumber(variable);
                return super.visitVariable(variable, inArguments);
            }

            @Override
            public Void visitTypeCast(TypeCastTree cast, Boolean inArguments) {
                keepType(cast.getType());
                return super.visitTypeCast(cast, inArguments);
            }

            @Override
            public Void visitArrayAccess(ArrayAccessTree place, Boolean inArguments) {
                keep(4, isArray(place.getExpression()), place, place.getExpression() + " is no array of the fields");
                return scan(place.getIndex(), inArguments);
            }

            @Override
            public Void visitIdentifier(IdentifierTree name, Boolean inArguments) {
                keep(4, !isArray(name), name, "the array " + name + " is not indexed");
                return super.visitIdentifier(name, inArguments);
            }

            @Override
            public Void visitBinary(BinaryTree both, Boolean inArguments) {
                boolean divides = both.getKind() == Kind.DIVIDE || both.getKind() == Kind.REMAINDER;
                keep(7, !divides || isPositive(both.getRightOperand()), both, "a divisor that is no constant");
                return super.visitBinary(both, inArguments);
            }

            @Override
            public Void visitCompoundAssignment(CompoundAssignmentTree change, Boolean inArguments) {
                boolean divides = change.getKind() == Kind.DIVIDE_ASSIGNMENT
                        || change.getKind() == Kind.REMAINDER_ASSIGNMENT;
                keep(7, !divides || isPositive(change.getExpression()), change, "a divisor that is no constant");
                return super.visitCompoundAssignment(change, inArguments);
            }

            @Override
            public Void visitNewArray(NewArrayTree array, Boolean inArguments) {
                keep(4, false, array, "an array made in a method");
                return null;
            }

            @Override
            public Void visitMethodInvocation(MethodInvocationTree call, Boolean inArguments) {
                String name = call.getMethodSelect().toString();
                keep(3, methods.containsKey(name), call, "a call of " + name);
                keep(10, !inArguments, call, "a call of " + name + " inside the arguments of another");
                if (calls.containsKey(method)) {
                    calls.get(method).add(name);
                }
                return scan(call.getArguments(), true);
            }

            @Override
            public Void visitForLoop(ForLoopTree loop, Boolean inArguments) {
                keep(8, isBounded(loop), loop, "a loop without a counter against a bound");
                return super.visitForLoop(loop, inArguments);
            }

            @Override
            public Void visitWhileLoop(WhileLoopTree loop, Boolean inArguments) {
                keep(8, false, loop, "a while loop, whose end this test cannot see");
                return super.visitWhileLoop(loop, inArguments);
            }

            @Override
            public Void visitDoWhileLoop(DoWhileLoopTree loop, Boolean inArguments) {
                keep(8, false, loop, "a do loop, whose end this test cannot see");
                return super.visitDoWhileLoop(loop, inArguments);
            }
        }.scan(body, false);
    }

    /** One counter that grows by one, at the loop's head alone, held against a bound by the condition's first part. */
    private static boolean isBounded(ForLoopTree loop) {
        if (loop.getInitializer().size() != 1 || loop.getUpdate().size() != 1 || loop.getCondition() == null
                || !(loop.getInitializer().get(0) instanceof VariableTree counter)) {
            return false;
        }
        ExpressionTree first = loop.getCondition();
        if (first instanceof BinaryTree both && both.getKind() == Kind.CONDITIONAL_AND) {
            first = both.getLeftOperand();
        }
        return first instanceof BinaryTree test && test.getKind() == Kind.LESS_THAN
                && test.getLeftOperand().toString().equals(counter.getName().toString())
                && loop.getUpdate().get(0).toString().equals(counter.getName() + "++;")
                && !changed(loop.getStatement()).contains(counter.getName().toString());
    }

    private static Set<String> changed(Tree body) {
        Set<String> names = new HashSet<>();
        new TreeScanner<Void, Void>() {
            @Override
            public Void visitAssignment(AssignmentTree change, Void nothing) {
                names.add(change.getVariable().toString());
                return super.visitAssignment(change, nothing);
            }

            @Override
            public Void visitCompoundAssignment(CompoundAssignmentTree change, Void nothing) {
                names.add(change.getVariable().toString());
                return super.visitCompoundAssignment(change, nothing);
            }

            @Override
            public Void visitUnary(UnaryTree change, Void nothing) {
                boolean isOnlyRead = Set.of(Kind.UNARY_MINUS, Kind.UNARY_PLUS, Kind.BITWISE_COMPLEMENT,
                        Kind.LOGICAL_COMPLEMENT).contains(change.getKind());
                if (!isOnlyRead) {
                    names.add(change.getExpression().toString());
                }
                return super.visitUnary(change, nothing);
            }
        }.scan(body, null);
        return names;
    }

    private static boolean isArray(ExpressionTree name) {
        return name instanceof IdentifierTree && arrays.contains(name.toString());
    }

    /** How many methods stand in the longest chain of calls that begins with this one. */
    private static int depth(String name, Set<String> above) {
        if (!above.add(name)) {
            keep(8, false, methods.get(name), name + " calls itself, if through others");
            return 0;
        }
        int deepest = 0;
        for (String called : calls.getOrDefault(name, Set.of())) {
            deepest = Math.max(deepest, methods.containsKey(called) ? depth(called, above) : 0);
        }
        above.remove(name);
        return 1 + deepest;
    }
}
