import java.lang.reflect.Constructor;
import java.lang.reflect.Field;
import java.lang.reflect.Method;
import java.lang.reflect.Modifier;
import java.util.Arrays;
import java.util.Map;
import java.util.Set;
import java.util.TreeSet;

/** The class shows the document's constants, constructor and methods, and no other member. */
public final class FaceTest {
    private static final Map<String, Integer> CONSTANTS = Map.of("ADD", 0, "SUB", 1, "MUL", 2, "DIV", 3,
            "BAD", -1000000, "NONE", -1000001, "TOO_BIG", -1000002);
    private static final Set<String> METHODS = Set.of("boolean set[int, int, int]", "int top[int]", "int bottom[int]",
            "int terms[int]", "int term[int, int]", "int apply[int, int, int, int]", "int transform[int, int, long]",
            "int compare[int, int]", "int between[int, int, int]", "int cut[int, int, int]");

    public static void main(String[] args) throws IllegalAccessException {
        Class<GosperFractions> face = GosperFractions.class;
        Due.is("public", Modifier.isPublic(face.getModifiers()), true);
        Due.is("final", Modifier.isFinal(face.getModifiers()), true);
        Due.is("superclass is Object", face.getSuperclass() == Object.class, true);
        Due.is("interfaces", face.getInterfaces().length, 0);
        Due.is("nested classes", face.getDeclaredClasses().length, 0);
        constants(face);
        Constructor<?>[] constructors = face.getDeclaredConstructors();
        Due.is("constructors", constructors.length, 1);
        Due.is("constructor is public", Modifier.isPublic(constructors[0].getModifiers()), true);
        Due.is("constructor's parameters", constructors[0].getParameterCount(), 0);
        methods(face);
        Due.end();
    }

    private static void constants(Class<?> face) throws IllegalAccessException {
        int seen = 0;
        for (Field field : face.getDeclaredFields()) {
            if (Modifier.isPrivate(field.getModifiers())) {
                continue;
            }
            seen++;
            Integer value = CONSTANTS.get(field.getName());
            int wanted = Modifier.PUBLIC | Modifier.STATIC | Modifier.FINAL;
            Due.is(field.getName() + " is a public int constant", value != null && field.getType() == int.class
                    && field.getModifiers() == wanted, true);
            if (value != null) {
                Due.is(field.getName(), field.getInt(null), value);
            }
        }
        Due.is("visible fields", seen, CONSTANTS.size());
    }

    private static void methods(Class<?> face) {
        Set<String> shown = new TreeSet<>();
        Set<String> names = new TreeSet<>();
        for (Method method : face.getDeclaredMethods()) {
            if (Modifier.isPrivate(method.getModifiers())) {
                continue;
            }
            names.add(method.getName());
            shown.add(method.getReturnType() + " " + method.getName() + Arrays.toString(method.getParameterTypes()));
            Due.is(method + " is public, not static", method.getModifiers() == Modifier.PUBLIC, true);
        }
        Due.is("methods " + shown, shown.equals(METHODS), true);
        for (Method method : face.getDeclaredMethods()) {
            boolean hides = Modifier.isPrivate(method.getModifiers()) && names.contains(method.getName());
            Due.is(method + " is private and bears a public name", hides, false);
        }
    }
}
