import java.lang.reflect.Constructor;
import java.lang.reflect.Field;
import java.lang.reflect.Method;
import java.lang.reflect.Modifier;
import java.util.List;
import java.util.Set;
import java.util.TreeSet;

/** The public face is the document's, and nothing else of the class can be seen from outside. */
public final class FaceTest {
    private static final List<String> FACE = List.of(
            "public final class AffineInvariants",
            "public static final int BAD_POINT = -1",
            "public static final int BAD_NUMBER = -2",
            "public static final int FULL = -3",
            "public static final int NONE = -4",
            "public AffineInvariants()",
            "public int assign(int, int, int)",
            "public int forget(int, int)",
            "public int pass(int)",
            "public int drop()",
            "public void clear()",
            "public boolean reached(int)",
            "public boolean holds(int, int)",
            "public int equations(int)",
            "public int span(int)",
            "public boolean inSpan(int, int)",
            "public int constant(int, int)",
            "public boolean implies(int, int)",
            "public int loosest()");

    public static void main(String[] args) throws IllegalAccessException {
        Set<String> want = new TreeSet<>(FACE);
        Set<String> got = face();
        int wrong = 0;
        for (String line : want) {
            if (!got.contains(line)) {
                wrong++;
                System.out.println("missing: " + line);
            }
        }
        for (String line : got) {
            if (!want.contains(line)) {
                wrong++;
                System.out.println("not in the document: " + line);
            }
        }
        System.out.println(wrong == 0 ? "the face is as due" : wrong + " lines of the face are not as due");
        if (wrong != 0) {
            System.exit(1);
        }
    }

    private static Set<String> face() throws IllegalAccessException {
        Class<?> type = AffineInvariants.class;
        Set<String> lines = new TreeSet<>();
        lines.add(Modifier.toString(type.getModifiers()) + " class " + type.getName());
        // Members of these could be seen from outside as well.
        if (type.getSuperclass() != Object.class) {
            lines.add("extends " + type.getSuperclass());
        }
        for (Class<?> other : type.getInterfaces()) {
            lines.add("implements " + other);
        }
        for (Class<?> nested : type.getDeclaredClasses()) {
            lines.add("within it " + nested);
        }
        for (Field field : type.getDeclaredFields()) {
            if (!Modifier.isPrivate(field.getModifiers())) {
                boolean isStatic = Modifier.isStatic(field.getModifiers());
                lines.add(Modifier.toString(field.getModifiers()) + " " + field.getType() + " "
                        + field.getName() + (isStatic ? " = " + field.get(null) : ""));
            }
        }
        for (Constructor<?> made : type.getDeclaredConstructors()) {
            lines.add(Modifier.toString(made.getModifiers()) + " " + made.getName()
                    + parameters(made.getParameterTypes()));
        }
        for (Method method : type.getDeclaredMethods()) {
            if (!Modifier.isPrivate(method.getModifiers())) {
                lines.add(Modifier.toString(method.getModifiers()) + " " + method.getReturnType() + " "
                        + method.getName() + parameters(method.getParameterTypes()));
            }
        }
        return lines;
    }

    private static String parameters(Class<?>[] types) {
        StringBuilder text = new StringBuilder("(");
        for (int i = 0; i < types.length; i++) {
            text.append(i == 0 ? "" : ", ").append(types[i]);
        }
        return text.append(")").toString();
    }
}
