import java.io.IOException;
import java.lang.reflect.Field;
import java.lang.reflect.Method;
import java.lang.reflect.Modifier;
import java.nio.file.Files;
import java.nio.file.Path;
import java.util.Set;
import java.util.TreeSet;
import java.util.regex.Matcher;
import java.util.regex.Pattern;

/**
 * README.md tells of every call and constant of the class, and its example answers what is written beside it
 * (to be run from the project's root).
 */
public final class ReadmeTest {
    private static final Path README = Path.of("README.md");
    private static final Pattern EXAMPLE = Pattern.compile("```java\n(.*?)```", Pattern.DOTALL);
    private static final Pattern CALL = Pattern.compile("it\\.(\\w+)\\((.*)\\); *// (\\w+).*");

    private static int wrong = 0;

    private static void keep(boolean kept, String what) {
        if (!kept) {
            wrong++;
            System.out.println("README.md: " + what);
        }
    }

    public static void main(String[] args) throws IOException, ReflectiveOperationException {
        String text = Files.readString(README);
        Set<String> calls = new TreeSet<>();
        for (Method method : AffineInvariants.class.getDeclaredMethods()) {
            if (Modifier.isPublic(method.getModifiers())) {
                calls.add(method.getName());
                keep(text.contains("\n| `" + method.getName() + "("), method.getName() + " has no row");
            }
        }
        for (Field field : AffineInvariants.class.getDeclaredFields()) {
            if (Modifier.isPublic(field.getModifiers())) {
                String row = "\n| `" + field.getName() + "` | " + field.get(null) + " |";
                keep(text.contains(row), field.getName() + " has no row with its value");
            }
        }
        followExample(text, calls);
        System.out.println(wrong == 0 ? "README.md is as due" : wrong + " things are not as due");
        if (wrong != 0) {
            System.exit(1);
        }
    }

    private static void followExample(String text, Set<String> calls) throws ReflectiveOperationException {
        Matcher example = EXAMPLE.matcher(text);
        keep(example.find(), "no example");
        AffineInvariants it = new AffineInvariants();
        Set<String> shown = new TreeSet<>();
        for (String line : example.group(1).split("\n")) {
            if (line.startsWith("it.")) {
                Matcher call = CALL.matcher(line);
                keep(call.matches(), "no answer beside " + line);
                shown.add(call.group(1));
                String got = answer(it, call.group(1), call.group(2));
                String want = value(call.group(3));
                keep(got.equals(want), line + " ... answered " + got);
            } else {
                keep(line.equals("AffineInvariants it = new AffineInvariants();"), "not followed: " + line);
            }
        }
        // Without an answer, clear is told of in the table alone.
        shown.add("clear");
        keep(shown.equals(calls), "the example shows " + shown);
    }

    private static String answer(AffineInvariants it, String name, String given) throws ReflectiveOperationException {
        String[] sums = given.isEmpty() ? new String[0] : given.split(",");
        Object[] numbers = new Object[sums.length];
        Class<?>[] types = new Class<?>[sums.length];
        for (int i = 0; i < sums.length; i++) {
            numbers[i] = sum(sums[i]);
            types[i] = int.class;
        }
        return String.valueOf(AffineInvariants.class.getMethod(name, types).invoke(it, numbers));
    }

    private static int sum(String text) {
        int sum = 0;
        for (String part : text.split("\\+")) {
            int product = 1;
            for (String factor : part.split("\\*")) {
                product *= Integer.parseInt(factor.trim());
            }
            sum += product;
        }
        return sum;
    }

    /** The number that a constant stands for, and anything else as it is. */
    private static String value(String answer) throws ReflectiveOperationException {
        boolean isConstant = answer.matches("[A-Z_]+");
        return isConstant ? String.valueOf(AffineInvariants.class.getField(answer).get(null)) : answer;
    }
}
