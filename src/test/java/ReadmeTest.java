import java.io.IOException;
import java.lang.reflect.Field;
import java.lang.reflect.Method;
import java.lang.reflect.Modifier;
import java.nio.file.Files;
import java.nio.file.Path;
import java.util.TreeSet;
import java.util.regex.Matcher;
import java.util.regex.Pattern;

/** README.md's example: its calls, made in their order, answer what stands behind them. */
public final class ReadmeTest {
    private static final Pattern CALL =
            Pattern.compile("x\\.(\\w+)\\(([-0-9, ]*)\\);(?: +// ([-\\w]+)(?::.*)?)?");

    public static void main(String[] args) throws IOException, ReflectiveOperationException {
        ShortestDigits x = new ShortestDigits();
        TreeSet<String> called = new TreeSet<>();
        for (String line : Files.readAllLines(Path.of("README.md"))) {
            if (line.startsWith("x.")) {
                Matcher call = CALL.matcher(line);
                Check.due("'" + line + "' is a call with its answer", call.matches(), true);
                if (call.matches()) {
                    called.add(call.group(1));
                    answers(x, line, call);
                }
            }
        }
        for (Method method : ShortestDigits.class.getMethods()) {
            if (method.getDeclaringClass() == ShortestDigits.class) {
                String name = method.getName();
                Check.due("README.md uses " + name, called.contains(name), true);
            }
        }
        Check.end();
    }

    private static void answers(ShortestDigits x, String line, Matcher call)
            throws ReflectiveOperationException {
        Method method = methodNamed(call.group(1));
        if (method == null) {
            Check.due("'" + line + "' calls a method", false, true);
            return;
        }
        Object answer = method.invoke(x, arguments(call.group(2)));
        String told = call.group(3) == null ? "null" : valueOf(call.group(3));
        Check.due("'" + line + "' answered " + answer + ": as told",
                told.equals(String.valueOf(answer)), true);
    }

    private static Method methodNamed(String name) {
        for (Method method : ShortestDigits.class.getMethods()) {
            if (method.getName().equals(name)) {
                return method;
            }
        }
        return null;
    }

    private static Object[] arguments(String list) {
        if (list.isEmpty()) {
            return new Object[0];
        }
        String[] words = list.split(", ");
        Object[] numbers = new Object[words.length];
        for (int i = 0; i < words.length; i++) {
            numbers[i] = Integer.valueOf(words[i]);
        }
        return numbers;
    }

    /** A constant's number for its name; any other word for itself. */
    private static String valueOf(String word) throws IllegalAccessException {
        for (Field field : ShortestDigits.class.getFields()) {
            if (Modifier.isStatic(field.getModifiers()) && field.getName().equals(word)) {
                return String.valueOf(field.get(null));
            }
        }
        return word;
    }
}
