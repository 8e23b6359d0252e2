import java.lang.reflect.Constructor;
import java.lang.reflect.Field;
import java.lang.reflect.Method;
import java.lang.reflect.Modifier;
import java.util.Arrays;
import java.util.Set;
import java.util.stream.Collectors;

/** The public face of the class, and those rules of LANGUAGE.md that can be seen from outside. */
public final class FaceTest {
    private static final String ARGUMENT = "IllegalArgumentException";
    private static final String STATE = "IllegalStateException";
    private static final String ELEMENT = "NoSuchElementException";
    private static final String UNSUPPORTED = "UnsupportedOperationException";
    private static final String BOUNDS = "IndexOutOfBoundsException";

    private static final Set<String> FACE = Set.of(
            text("begin", 0, STATE),
            text("read", 2, ARGUMENT, STATE, ELEMENT),
            text("write", 3, ARGUMENT, STATE, UNSUPPORTED, BOUNDS),
            text("erase", 2, ARGUMENT, STATE, ELEMENT, UNSUPPORTED, BOUNDS),
            text("commit", 1, STATE),
            text("rollback", 1, STATE),
            text("sweep", 0),
            text("flush", 0),
            text("fail", 1, ARGUMENT),
            text("crash", 0),
            text("image", 1, ARGUMENT, ELEMENT),
            text("state", 1, ARGUMENT),
            text("version", 3, ARGUMENT, ELEMENT),
            text("page", 1, ARGUMENT),
            text("count", 1, ARGUMENT));

    private static String text(String name, int arguments, String... exceptions) {
        return name + "/" + arguments + " throws " + Arrays.asList(exceptions);
    }

    private static String text(Method method) {
        String[] exceptions = Arrays.stream(method.getExceptionTypes()).map(Class::getSimpleName).toArray(String[]::new);
        boolean ints = method.getReturnType() == int.class
                && Arrays.stream(method.getParameterTypes()).allMatch(type -> type == int.class);
        return ints ? text(method.getName(), method.getParameterCount(), exceptions) : "not of int: " + method;
    }

    private static boolean isHidden(int modifiers) {
        return Modifier.isPrivate(modifiers);
    }

    private static void face() {
        Class<?> type = RecordVersions.class;
        Script.due("the class is public and final", Modifier.isPublic(type.getModifiers()) && Modifier.isFinal(type.getModifiers()));
        Set<String> open = Arrays.stream(type.getDeclaredMethods())
                .filter(method -> !isHidden(method.getModifiers()) && !method.isSynthetic())
                .map(FaceTest::text).collect(Collectors.toSet());
        Script.due("the methods are " + FACE + " and not " + open, open.equals(FACE));
        Constructor<?>[] constructors = type.getDeclaredConstructors();
        Script.due("one public constructor without arguments", constructors.length == 1
                && Modifier.isPublic(constructors[0].getModifiers()) && constructors[0].getParameterCount() == 0);
        for (Field field : type.getDeclaredFields()) {
            Script.due(field + " is CRASHED or private", field.getName().equals("CRASHED") || isHidden(field.getModifiers()));
        }
    }

    private static void rules() {
        Set<String> names = FACE.stream().map(method -> method.substring(0, method.indexOf('/'))).collect(Collectors.toSet());
        for (Class<?> inside : RecordVersions.class.getDeclaredClasses()) {
            int modifiers = inside.getModifiers();
            Script.due(inside + " is static and not public", Modifier.isStatic(modifiers) && !Modifier.isPublic(modifiers));
            for (Method method : inside.getDeclaredMethods()) {
                Script.due(method + " bears no name of the face", !names.contains(method.getName()));
            }
            noStaticState(inside);
        }
        for (Method method : RecordVersions.class.getDeclaredMethods()) {
            Script.due(method + " bears no name of the face",
                    !isHidden(method.getModifiers()) || !names.contains(method.getName()));
        }
        noStaticState(RecordVersions.class);
    }

    private static void noStaticState(Class<?> type) {
        for (Field field : type.getDeclaredFields()) {
            int modifiers = field.getModifiers();
            Script.due(field + " is final if static", !Modifier.isStatic(modifiers) || Modifier.isFinal(modifiers));
        }
    }

    public static void main(String[] args) {
        face();
        rules();
        Script.end();
    }
}
