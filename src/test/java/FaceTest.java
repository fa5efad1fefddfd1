import java.lang.reflect.Constructor;
import java.lang.reflect.Field;
import java.lang.reflect.Method;
import java.lang.reflect.Modifier;
import java.util.Arrays;
import java.util.TreeSet;

/** The public face is the document's, whole and with nothing beside it (LANGUAGE.md, rule 1). */
public final class FaceTest {
    private static final String ISE = "IllegalStateException";
    private static final String PATH = ISE + " IllegalArgumentException NoSuchElementException";
    private static final String KIND = PATH + " UnsupportedOperationException";
    private static final String PLACE = KIND + " IndexOutOfBoundsException";
    private static final String ROOM = KIND + " ArithmeticException";

    private static final String[] METHODS = {
        "int make(int,boolean) " + ROOM,
        "int remove(int) " + KIND,
        "int rename(int,int) " + KIND,
        "int append(int,int) " + ROOM,
        "int get(int,int) " + PLACE,
        "int put(int,int,int) " + PLACE,
        "int shorten(int,int) " + PLACE,
        "int length(int) " + PATH,
        "int names(int) " + KIND,
        "int free() " + ISE,
        "void arm(int) ",
        "boolean isDown() ",
        "int mount() ",
        "int cell(int,int) ",
        "int table(int) ",
    };

    public static void main(String[] args) {
        Checks checks = new Checks("the face");
        Class<?> type = ClusterVolume.class;
        checks.same("the class is public and final", "public final",
                () -> Modifier.toString(type.getModifiers()));
        checks.same("the methods", new TreeSet<>(Arrays.asList(METHODS)), () -> methodsOf(type));
        checks.same("the constants", new TreeSet<>(Arrays.asList("END", "FREE", "NONE")),
                () -> fieldsOf(type));
        checks.same("the constructors", "[public ClusterVolume()]",
                () -> Arrays.toString(openConstructorsOf(type)));
        checks.same("FREE", -2, () -> ClusterVolume.FREE);
        checks.same("END", -1, () -> ClusterVolume.END);
        checks.same("NONE", -1, () -> ClusterVolume.NONE);
        checks.end();
    }

    private static TreeSet<String> methodsOf(Class<?> type) {
        TreeSet<String> found = new TreeSet<>();
        for (Method m : type.getDeclaredMethods()) {
            if (!Modifier.isPrivate(m.getModifiers()) && !m.isSynthetic()) {
                found.add(m.getReturnType() + " " + m.getName() + "("
                        + namesOf(m.getParameterTypes(), ",") + ") "
                        + namesOf(m.getExceptionTypes(), " "));
            }
        }
        return found;
    }

    private static TreeSet<String> fieldsOf(Class<?> type) {
        TreeSet<String> found = new TreeSet<>();
        for (Field f : type.getDeclaredFields()) {
            if (!Modifier.isPrivate(f.getModifiers()) && !f.isSynthetic()) {
                found.add(f.getName());
            }
        }
        return found;
    }

    private static Constructor<?>[] openConstructorsOf(Class<?> type) {
        return Arrays.stream(type.getDeclaredConstructors())
                .filter(c -> !Modifier.isPrivate(c.getModifiers()))
                .toArray(Constructor<?>[]::new);
    }

    private static String namesOf(Class<?>[] types, String between) {
        String[] names = new String[types.length];
        for (int i = 0; i < types.length; i++) {
            names[i] = types[i].getSimpleName();
        }
        return String.join(between, names);
    }
}
