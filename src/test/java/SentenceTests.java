import java.lang.reflect.InvocationTargetException;
import java.lang.reflect.Method;
import java.util.Arrays;
import java.util.Comparator;
import java.util.List;

/** Runs each method of a class that bears a sentence of the document as a test of its own. */
final class SentenceTests {
    private SentenceTests() { }

    static void run(Class<?> tests) {
        List<Method> methods = Arrays.stream(tests.getDeclaredMethods())
                .filter(method -> method.isAnnotationPresent(Sentence.class))
                .sorted(Comparator.comparing(Method::getName))
                .toList();
        long failed = methods.stream().filter(method -> !holds(method)).count();
        System.out.println(methods.size() + " tests of sentences, " + failed + " failed");
        if (failed != 0 || methods.isEmpty()) {
            System.exit(1);
        }
    }

    private static boolean holds(Method method) {
        Checks checks = new Checks(method.getName());
        try {
            method.invoke(null, checks);
        } catch (InvocationTargetException e) {
            checks.wrong("stopped by " + e.getCause());
        } catch (IllegalAccessException e) {
            checks.wrong("could not be run");
        }
        if (!checks.passed()) {
            String sentence = method.getAnnotation(Sentence.class).value();
            System.out.println(method.getName() + " failed; the document: \"" + sentence + "\"");
        }
        return checks.passed();
    }
}
