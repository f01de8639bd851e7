import com.sun.source.tree.ArrayTypeTree;
import com.sun.source.tree.BinaryTree;
import com.sun.source.tree.ClassTree;
import com.sun.source.tree.CompilationUnitTree;
import com.sun.source.tree.DoWhileLoopTree;
import com.sun.source.tree.ExpressionTree;
import com.sun.source.tree.ForLoopTree;
import com.sun.source.tree.IdentifierTree;
import com.sun.source.tree.LiteralTree;
import com.sun.source.tree.MethodInvocationTree;
import com.sun.source.tree.MethodTree;
import com.sun.source.tree.NewArrayTree;
import com.sun.source.tree.Tree;
import com.sun.source.tree.Tree.Kind;
import com.sun.source.tree.VariableTree;
import com.sun.source.tree.WhileLoopTree;
import com.sun.source.util.JavacTask;
import com.sun.source.util.SourcePositions;
import com.sun.source.util.TreeScanner;
import com.sun.source.util.Trees;
import java.io.IOException;
import java.io.Writer;
import java.nio.file.Path;
import java.util.EnumSet;
import java.util.HashMap;
import java.util.HashSet;
import java.util.List;
import java.util.Map;
import java.util.Set;
import java.util.TreeSet;
import javax.lang.model.element.Modifier;
import javax.tools.JavaCompiler;
import javax.tools.StandardJavaFileManager;
import javax.tools.ToolProvider;

/**
 * Most of what the rules of LANGUAGE.md ask of the source (to be run from the project's root). Not seen here:
 * arrays that are compared or renamed in a loop (4), a counter that its loop's body changes (8), and that no
 * call throws or fails to end (7), which is left to the tests that call. The public face is FaceTest's.
 */
public final class LanguageTest {
    private static final Path SOURCE = Path.of("src/main/java/AffineInvariants.java");
    private static final Set<String> TYPES = Set.of("int", "long", "short", "byte", "char", "boolean");
    private static final Set<Kind> FORBIDDEN = EnumSet.of(Kind.THROW, Kind.TRY, Kind.CATCH, Kind.SYNCHRONIZED,
            Kind.ASSERT, Kind.INSTANCE_OF, Kind.LAMBDA_EXPRESSION, Kind.MEMBER_REFERENCE, Kind.NEW_CLASS,
            Kind.NULL_LITERAL, Kind.STRING_LITERAL, Kind.FLOAT_LITERAL, Kind.DOUBLE_LITERAL, Kind.ANNOTATION,
            Kind.PARAMETERIZED_TYPE, Kind.INTERFACE, Kind.ENUM, Kind.RECORD, Kind.MEMBER_SELECT);
    private static final int MOST_PARAMETERS = 7;
    private static final int MOST_LINES = 60;
    private static final int MOST_FIELDS = 40;
    private static final int DEEPEST = 6;

    private static int wrong = 0;
    private static CompilationUnitTree unit;
    private static SourcePositions positions;
    private static final Map<String, MethodTree> methods = new HashMap<>();
    private static final Map<String, Set<String>> calls = new HashMap<>();
    private static final Set<String> constants = new HashSet<>();

    private static long line(long position) {
        return unit.getLineMap().getLineNumber(position);
    }

    private static void keep(int rule, boolean kept, Tree tree, String what) {
        if (!kept) {
            wrong++;
            System.out.println("rule " + rule + ", line " + line(positions.getStartPosition(unit, tree)) + ": " + what);
        }
    }

    public static void main(String[] args) throws IOException {
        JavaCompiler compiler = ToolProvider.getSystemJavaCompiler();
        try (StandardJavaFileManager files = compiler.getStandardFileManager(null, null, null)) {
            JavacTask task = (JavacTask) compiler.getTask(Writer.nullWriter(), files, null, List.of("-proc:none"), null,
                    files.getJavaFileObjects(SOURCE));
            unit = task.parse().iterator().next();
            positions = Trees.instance(task).getSourcePositions();
            keepTheFile();
        }
        System.out.println(wrong == 0 ? "the rules are kept" : wrong + " places do not keep to the rules");
        if (wrong != 0) {
            System.exit(1);
        }
    }

    private static void keepTheFile() {
        keep(1, unit.getPackage() == null, unit, "a package line");
        keep(3, unit.getImports().isEmpty(), unit, "an import");
        keep(1, unit.getTypeDecls().size() == 1, unit, "more than one class");
        ClassTree type = (ClassTree) unit.getTypeDecls().get(0);
        keep(1, type.getExtendsClause() == null && type.getImplementsClause().isEmpty(), type, "a class above");
        for (Tree member : type.getMembers()) {
            collect(member);
        }
        int fields = 0;
        for (Tree member : type.getMembers()) {
            if (member instanceof VariableTree field) {
                keepField(field);
                fields += isStatic(field) ? 0 : 1;
            } else if (member instanceof MethodTree method) {
                keepMethod(method);
            } else {
                keep(member.getKind() == Kind.BLOCK ? 5 : 1, false, member, "neither a field nor a method");
            }
        }
        keep(10, fields <= MOST_FIELDS, type, fields + " fields");
        for (String name : new TreeSet<>(methods.keySet())) {
            int deep = depth(name, new HashSet<>());
            keep(10, deep <= DEEPEST, methods.get(name), name + " goes " + deep + " methods deep");
        }
    }

    private static void collect(Tree member) {
        if (member instanceof MethodTree method) {
            String name = method.getName().toString();
            keep(1, methods.put(name, method) == null, method, "two methods named " + name);
        } else if (member instanceof VariableTree field && isStatic(field)) {
            constants.add(field.getName().toString());
        }
    }

    private static boolean isStatic(VariableTree field) {
        return field.getModifiers().getFlags().contains(Modifier.STATIC);
    }

    private static boolean isConstant(ExpressionTree length) {
        return length instanceof LiteralTree
                || length instanceof IdentifierTree name && constants.contains(name.getName().toString());
    }

    private static void keepField(VariableTree field) {
        String name = field.getName().toString();
        keepType(field.getType());
        if (isStatic(field)) {
            String type = field.getType().toString();
            boolean isFinal = field.getModifiers().getFlags().contains(Modifier.FINAL);
            keep(5, isFinal && (type.equals("int") || type.equals("long")), field, name + " is no constant number");
        }
        if (field.getType() instanceof ArrayTypeTree) {
            boolean made = field.getInitializer() instanceof NewArrayTree array && array.getInitializers() == null
                    && array.getDimensions().size() == 1 && isConstant(array.getDimensions().get(0));
            keep(4, made, field, name + " is not made with a constant length where it is declared");
            boolean isFinal = field.getModifiers().getFlags().contains(Modifier.FINAL);
            keep(4, isFinal, field, name + " could be assigned to");
        } else if (field.getInitializer() != null) {
            keepBody(field.getInitializer(), "");
        }
    }

    private static void keepType(Tree type) {
        Tree of = type instanceof ArrayTypeTree array ? array.getType() : type;
        keep(2, TYPES.contains(of.toString()), type, "the type " + type);
    }

    private static void keepMethod(MethodTree method) {
        String name = method.getName().toString();
        if (method.getReturnType() != null && !method.getReturnType().toString().equals("void")) {
            keepType(method.getReturnType());
            keep(4, !(method.getReturnType() instanceof ArrayTypeTree), method, name + " answers an array");
        }
        keep(10, method.getParameters().size() <= MOST_PARAMETERS, method, name + " has too many parameters");
        long lines = line(positions.getEndPosition(unit, method)) - line(positions.getStartPosition(unit, method)) + 1;
        keep(10, lines <= MOST_LINES, method, name + " has " + lines + " lines");
        calls.put(name, new TreeSet<>());
        for (VariableTree parameter : method.getParameters()) {
            keepType(parameter.getType());
        }
        keepBody(method.getBody(), name);
    }

    private static void keepBody(Tree body, String method) {
        new TreeScanner<Void, Boolean>() {
            @Override
            public Void scan(Tree tree, Boolean inArguments) {
                if (tree != null) {
                    keep(6, !FORBIDDEN.contains(tree.getKind()), tree, tree.getKind() + " is left out of the language");
                }
                return super.scan(tree, inArguments);
            }

            @Override
            public Void visitVariable(VariableTree variable, Boolean inArguments) {
                keepType(variable.getType());
                return super.visitVariable(variable, inArguments);
            }

            @Override
            public Void visitNewArray(NewArrayTree array, Boolean inArguments) {
                keep(4, false, array, "an array made in a method");
                return null;
            }

            @Override
            public Void visitMethodInvocation(MethodInvocationTree call, Boolean inArguments) {
                String name = call.getMethodSelect().toString();
                keep(3, methods.containsKey(name), call, "a call of " + name);
                keep(10, !inArguments, call, "a call of " + name + " inside the arguments of another");
                if (calls.containsKey(method)) {
                    calls.get(method).add(name);
                }
                return scan(call.getArguments(), true);
            }

            @Override
            public Void visitForLoop(ForLoopTree loop, Boolean inArguments) {
                keep(8, isBounded(loop), loop, "a loop without a counter against a bound");
                return super.visitForLoop(loop, inArguments);
            }

            @Override
            public Void visitWhileLoop(WhileLoopTree loop, Boolean inArguments) {
                keep(8, false, loop, "a while loop, whose end this test cannot see");
                return super.visitWhileLoop(loop, inArguments);
            }

            @Override
            public Void visitDoWhileLoop(DoWhileLoopTree loop, Boolean inArguments) {
                keep(8, false, loop, "a do loop, whose end this test cannot see");
                return super.visitDoWhileLoop(loop, inArguments);
            }
        }.scan(body, false);
    }

    /** One counter that grows by one, held against a bound by the first part of the condition. */
    private static boolean isBounded(ForLoopTree loop) {
        if (loop.getInitializer().size() != 1 || loop.getUpdate().size() != 1 || loop.getCondition() == null
                || !(loop.getInitializer().get(0) instanceof VariableTree counter)) {
            return false;
        }
        ExpressionTree first = loop.getCondition();
        if (first instanceof BinaryTree both && both.getKind() == Kind.CONDITIONAL_AND) {
            first = both.getLeftOperand();
        }
        return first instanceof BinaryTree test && test.getKind() == Kind.LESS_THAN
                && test.getLeftOperand().toString().equals(counter.getName().toString())
                && loop.getUpdate().get(0).toString().equals(counter.getName() + "++;");
    }

    /** How many methods stand in the longest chain of calls that begins with this one. */
    private static int depth(String name, Set<String> above) {
        if (!above.add(name)) {
            keep(8, false, methods.get(name), name + " calls itself, if through others");
            return 0;
        }
        int deepest = 0;
        for (String called : calls.getOrDefault(name, Set.of())) {
            deepest = Math.max(deepest, methods.containsKey(called) ? depth(called, above) : 0);
        }
        above.remove(name);
        return 1 + deepest;
    }
}
