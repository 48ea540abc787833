import java.lang.reflect.InvocationTargetException;
import java.lang.reflect.Method;
import java.lang.reflect.Modifier;
import java.nio.file.Files;
import java.nio.file.Path;
import java.util.regex.Matcher;
import java.util.regex.Pattern;

/** README.md: the calls of its example answer what stands behind them, and every call of the face is named. */
public final class ReadmeTest {
    private static final Pattern CALL =
            Pattern.compile("x\\.(\\w+)\\(([^)]*)\\);\\s*// (throws \\w+|true|false|-?\\d+)(:.*)?");

    public static void main(String[] args) throws Exception {
        String readme = Files.readString(Path.of("README.md"));
        example(readme);
        for (Method m : HopCourts.class.getDeclaredMethods()) {
            if (Modifier.isPublic(m.getModifiers())) {
                Check.due("README.md names " + m.getName(), readme.contains("`" + m.getName() + "`"), true);
            }
        }
        Check.end("ReadmeTest");
    }

    private static void example(String readme) throws Exception {
        String head = "```java\n";
        int from = readme.indexOf(head);
        int to = readme.indexOf("```\n", from + head.length());
        Check.due("README.md has an example", from >= 0 && to > from, true);
        if (from < 0 || to < from) {
            return;
        }
        HopCourts x = null;
        int calls = 0;
        for (String line : readme.substring(from + head.length(), to).split("\n")) {
            Matcher call = CALL.matcher(line);
            if (line.equals("HopCourts x = new HopCourts();")) {
                x = new HopCourts();
            } else if (x != null && call.matches()) {
                String got = answer(x, call.group(1), call.group(2));
                Check.due(line + " (answered " + got + ")", got.equals(call.group(3)), true);
                calls++;
            } else {
                Check.due("a line that is no call with its answer: " + line, false, true);
            }
        }
        Check.due("calls in the example", calls > 0, true);
    }

    private static String answer(HopCourts x, String name, String given) throws Exception {
        String[] words = given.isBlank() ? new String[0] : given.split(",\\s*");
        Class<?>[] types = new Class<?>[words.length];
        Object[] values = new Object[words.length];
        for (int i = 0; i < words.length; i++) {
            types[i] = int.class;
            values[i] = Integer.decode(words[i]);
        }
        try {
            return String.valueOf(HopCourts.class.getMethod(name, types).invoke(x, values));
        } catch (InvocationTargetException e) {
            return "throws " + e.getCause().getClass().getSimpleName();
        }
    }
}
