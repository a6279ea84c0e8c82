import java.lang.reflect.Method;
import java.lang.reflect.Modifier;
import java.nio.file.Files;
import java.nio.file.Path;
import java.util.regex.Matcher;
import java.util.regex.Pattern;

/** README.md's example answers what it says, and each call of the class has a row there. */
public final class ReadmeTest {
    private static final Pattern CALL = Pattern.compile("house\\.(\\w+)\\(([^)]*)\\);\\s*// (-?\\d+)");

    private static final Checks c = new Checks();

    public static void main(String[] args) throws Exception {
        String readme = Files.readString(Path.of("README.md"));
        example(readme);
        rows(readme);
        c.end();
    }

    private static void example(String readme) throws Exception {
        c.part("example");
        TopSpeaks house = new TopSpeaks();
        Matcher told = CALL.matcher(readme);
        int calls = 0;
        while (told.find()) {
            c.due(told.group(), call(house, told.group(1), told.group(2)), Long.parseLong(told.group(3)));
            calls++;
        }
        c.due("has calls", calls > 0 ? 1 : 0, 1);
        c.due("calls that tell their answers", calls, Pattern.compile("house\\.").matcher(readme).results().count());
    }

    private static long call(TopSpeaks house, String name, String told) throws Exception {
        for (Method method : TopSpeaks.class.getDeclaredMethods()) {
            if (method.getName().equals(name) && Modifier.isPublic(method.getModifiers())) {
                return ((Number) method.invoke(house, arguments(method, told))).longValue();
            }
        }
        throw new IllegalArgumentException("README.md calls " + name + "(), which the class has not");
    }

    private static Object[] arguments(Method method, String told) {
        String[] words = told.isEmpty() ? new String[0] : told.split(", ");
        Object[] values = new Object[words.length];
        for (int i = 0; i < words.length; i++) {
            long value = Long.decode(words[i].replace("L", ""));
            if (method.getParameterTypes()[i] == long.class) {
                values[i] = value;
            } else {
                values[i] = (int) value;
            }
        }
        return values;
    }

    private static void rows(String readme) {
        c.part("rows");
        for (Method method : TopSpeaks.class.getDeclaredMethods()) {
            if (Modifier.isPublic(method.getModifiers())) {
                c.due(method.getName(), rowsOf(readme, method), 1);
            }
        }
    }

    private static long rowsOf(String readme, Method method) {
        StringBuilder head = new StringBuilder("(?m)^\\| `" + method.getName() + "\\(");
        String between = "";
        for (Class<?> type : method.getParameterTypes()) {
            head.append(between).append(type.getName()).append(" \\w+");
            between = ", ";
        }
        return Pattern.compile(head + "\\)` \\|").matcher(readme).results().count();
    }
}
