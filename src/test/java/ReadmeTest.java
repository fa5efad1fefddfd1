import java.io.IOException;
import java.lang.reflect.Method;
import java.nio.file.Files;
import java.nio.file.Path;
import java.util.Arrays;
import java.util.TreeSet;
import java.util.regex.Matcher;
import java.util.regex.Pattern;

/** The example in README.md shows every call, and each answers what stands behind it there. */
public final class ReadmeTest {
    private static final Pattern CALL = Pattern.compile("v\\.(\\w+)\\((.*)\\); +// ([^:]*)(:.*)?");
    private static final String THROWS = "throws ";

    public static void main(String[] args) throws IOException {
        Checks checks = new Checks("README.md");
        ClusterVolume volume = new ClusterVolume();
        TreeSet<String> shown = new TreeSet<>();
        for (String line : Files.readAllLines(Path.of("README.md"))) {
            Matcher call = CALL.matcher(line);
            if (call.matches()) {
                shown.add(call.group(1));
                Method method = methodNamed(call.group(1));
                Object[] values = valuesOf(call.group(2));
                checks.same(line, dueOf(method, call.group(3)), () -> answer(volume, method, values));
            } else if (line.startsWith("v.")) {
                checks.wrong("a call without an answer: " + line);
            }
        }
        checks.same("the calls shown", allCalls(), () -> shown);
        checks.end();
    }

    private static Method methodNamed(String name) {
        return Arrays.stream(ClusterVolume.class.getMethods())
                .filter(method -> method.getName().equals(name))
                .findFirst()
                .orElseThrow();
    }

    private static TreeSet<String> allCalls() {
        TreeSet<String> names = new TreeSet<>();
        for (Method method : ClusterVolume.class.getMethods()) {
            if (method.getDeclaringClass() == ClusterVolume.class) {
                names.add(method.getName());
            }
        }
        return names;
    }

    private static Object[] valuesOf(String list) {
        return list.isEmpty()
                ? new Object[0]
                : Arrays.stream(list.split(", ")).map(ReadmeTest::valueOf).toArray();
    }

    private static Object valueOf(String text) {
        return text.equals("true") || text.equals("false")
                ? (Object) Boolean.valueOf(text)
                : Integer.decode(text);
    }

    /** A call without an answer has words behind it that say what it does. */
    private static Object dueOf(Method method, String text) {
        if (method.getReturnType() == void.class) {
            return null;
        }
        return text.startsWith(THROWS) ? text.substring(THROWS.length()) : valueOf(text);
    }

    private static Object answer(ClusterVolume volume, Method method, Object[] values) {
        try {
            return method.invoke(volume, values);
        } catch (ReflectiveOperationException e) {
            return e.getCause().getClass().getSimpleName();
        }
    }
}
