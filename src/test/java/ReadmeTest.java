import java.io.BufferedReader;
import java.io.IOException;
import java.io.InputStreamReader;
import java.lang.reflect.InvocationTargetException;
import java.lang.reflect.Method;
import java.lang.reflect.Modifier;
import java.nio.charset.StandardCharsets;
import java.util.Set;
import java.util.TreeSet;
import java.util.regex.Matcher;
import java.util.regex.Pattern;

/** The calls in the README's examples answer what stands beside them; the README is the standard input. */
public final class ReadmeTest {
    private static final String NEW_SHEET = "SpillSheet sheet = new SpillSheet();";
    private static final Pattern CALL = Pattern.compile("sheet\\.(\\w+)\\(([^)]*)\\); +// (-?\\d+)(:.*)?");

    public static void main(String[] args) throws IOException, ReflectiveOperationException {
        BufferedReader readme = new BufferedReader(new InputStreamReader(System.in, StandardCharsets.UTF_8));
        Set<String> called = new TreeSet<>();
        SpillSheet sheet = null;
        for (String line = readme.readLine(); line != null; line = readme.readLine()) {
            if (line.equals(NEW_SHEET)) {
                sheet = new SpillSheet();
            } else if (line.startsWith("sheet.")) {
                called.add(checkCall(sheet, line));
            }
        }
        Check.due("all methods are in an example, seen " + called, called.equals(face()) ? 1 : 0, 1);
        Check.finish();
    }

    private static String checkCall(SpillSheet sheet, String line) throws ReflectiveOperationException {
        Matcher call = CALL.matcher(line);
        if (!call.matches()) {
            Check.due("a call with its answer: " + line, 0, 1);
            return "";
        }
        String name = call.group(1);
        Check.due(line, answer(sheet, name, call.group(2)), Long.parseLong(call.group(3)));
        return name;
    }

    private static long answer(SpillSheet sheet, String name, String list)
            throws IllegalAccessException, InvocationTargetException, NoSuchMethodException {
        String[] words = list.split(", ");
        Object[] arguments = new Object[words.length];
        Class<?>[] types = new Class<?>[words.length];
        for (int i = 0; i < words.length; i++) {
            arguments[i] = argument(words[i]);
            types[i] = int.class;
        }
        Method method = SpillSheet.class.getMethod(name, types);
        return ((Number) method.invoke(sheet, arguments)).longValue();
    }

    /** A number, or a rectangle written as 36 * cell + cell. */
    private static int argument(String word) {
        Matcher rectangle = Pattern.compile("36 \\* (\\d+) \\+ (\\d+)").matcher(word);
        if (rectangle.matches()) {
            return Check.rectangle(Integer.parseInt(rectangle.group(1)), Integer.parseInt(rectangle.group(2)));
        }
        return Integer.parseInt(word);
    }

    private static Set<String> face() {
        Set<String> names = new TreeSet<>();
        for (Method method : SpillSheet.class.getDeclaredMethods()) {
            if (Modifier.isPublic(method.getModifiers())) {
                names.add(method.getName());
            }
        }
        return names;
    }
}
