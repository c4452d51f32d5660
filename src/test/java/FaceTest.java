import java.lang.reflect.Constructor;
import java.lang.reflect.Field;
import java.lang.reflect.Method;
import java.lang.reflect.Modifier;
import java.util.Arrays;
import java.util.TreeSet;

/** The public face: its constants, constructor and methods and nothing else that can be seen. */
public final class FaceTest {
    private static final String[] FACE = {
        "int BAD_ARG", "int FULL", "int NONE", "new()",
        "int units(int)", "int read(int, int)", "boolean names(int, int, int)",
        "int compare(int, int, int)", "int digits(int)", "int scale(int)", "int length(int)",
        "int written(int, int)", "int places(int)", "int type(int)", "int back()", "void clear()",
        "int typed()", "int typedDigits()", "int spare()",
    };

    public static void main(String[] args) {
        Check.due("public final", ShortestDigits.class.getModifiers(),
                Modifier.PUBLIC | Modifier.FINAL);
        TreeSet<String> due = new TreeSet<>(Arrays.asList(FACE));
        TreeSet<String> seen = visibleMembers();
        Check.due("members seen " + seen + " as due " + due, seen.equals(due), true);
        noPrivateNamesakes();
        Check.end();
    }

    private static TreeSet<String> visibleMembers() {
        TreeSet<String> seen = new TreeSet<>();
        for (Field field : ShortestDigits.class.getDeclaredFields()) {
            if (!Modifier.isPrivate(field.getModifiers())) {
                seen.add(field.getType() + " " + field.getName());
            }
        }
        for (Constructor<?> made : ShortestDigits.class.getDeclaredConstructors()) {
            seen.add("new" + parameters(made.getParameterTypes()));
        }
        for (Method method : ShortestDigits.class.getDeclaredMethods()) {
            if (!Modifier.isPrivate(method.getModifiers())) {
                seen.add(method.getReturnType() + " " + method.getName()
                        + parameters(method.getParameterTypes()));
            }
        }
        return seen;
    }

    private static String parameters(Class<?>[] types) {
        String list = Arrays.toString(types);
        return "(" + list.substring(1, list.length() - 1) + ")";
    }

    private static void noPrivateNamesakes() {
        TreeSet<String> names = new TreeSet<>();
        for (Method method : ShortestDigits.class.getDeclaredMethods()) {
            Check.due("first method named " + method.getName(), names.add(method.getName()), true);
        }
    }
}
