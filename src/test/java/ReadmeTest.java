import java.io.IOException;
import java.lang.reflect.Method;
import java.lang.reflect.Modifier;
import java.nio.file.Files;
import java.nio.file.Path;
import java.util.HashMap;
import java.util.Map;
import java.util.Set;
import java.util.TreeSet;
import java.util.regex.Matcher;
import java.util.regex.Pattern;

/** What README.md shows: its calls with their answers, the constants and the heads; .ci/run starts it at the project's root. */
public final class ReadmeTest {
    private static final Pattern BLOCK = Pattern.compile("(?s)```java\n(.*?)```");
    private static final Pattern OBJECT = Pattern.compile("GosperFractions (\\w+) = new GosperFractions\\(\\);");
    private static final Pattern CALL = Pattern.compile("(\\w+)\\.((\\w+)\\(([^()]*)\\));\\s+// (-?\\w+)(: .*)?");
    private static final Pattern HOLDS = Pattern.compile("register (\\d) (?:is now|holds) (-?\\d+) / (\\d+)");
    private static final Pattern CHAIN = Pattern.compile("the chain of register (\\d) is (-?\\d+(?:, -?\\d+)*)");
    private static final Pattern CONSTANT = Pattern.compile("(?m)^\\| `(\\w+)` \\| (-?\\d+) \\|");
    private static final Pattern HEAD = Pattern.compile("(?m)^\\| `((?:boolean|int) \\w+\\([^()]*\\))` \\|");

    private static final Map<String, GosperFractions> OBJECTS = new HashMap<>();
    private static final Set<String> CALLED = new TreeSet<>();

    public static void main(String[] args) throws IOException, ReflectiveOperationException {
        String readme = Files.readString(Path.of("README.md"));
        for (Matcher block = BLOCK.matcher(readme); block.find();) {
            for (String line : block.group(1).split("\n")) {
                line(line);
            }
        }
        constants(readme);
        heads(readme);
        Due.end();
    }

    private static void line(String line) throws ReflectiveOperationException {
        Matcher object = OBJECT.matcher(line);
        Matcher call = CALL.matcher(line);
        if (object.matches()) {
            OBJECTS.put(object.group(1), new GosperFractions());
        } else if (call.matches() && OBJECTS.containsKey(call.group(1))) {
            call(call);
        } else {
            Due.is("README.md, a line that is no call with its answer: " + line, false, true);
        }
    }

    private static void call(Matcher call) throws ReflectiveOperationException {
        GosperFractions x = OBJECTS.get(call.group(1));
        String shown = "README.md, " + call.group(2);
        Method method = method(call.group(3));
        String[] words = call.group(4).split(", ");
        Class<?>[] types = method.getParameterTypes();
        Due.is(shown + ": arguments", words.length, types.length);
        Object[] arguments = new Object[types.length];
        for (int i = 0; i < types.length; i++) {
            arguments[i] = argument(words[i], types[i]);
        }
        Object answer = method.invoke(x, arguments);
        Due.is(shown + ": answers " + answer + ", not " + call.group(5), answer.equals(answer(call.group(5))), true);
        claims(shown, x, call.group(6) == null ? "" : call.group(6));
        CALLED.add(method.getName());
    }

    private static Method method(String name) throws NoSuchMethodException {
        for (Method method : GosperFractions.class.getDeclaredMethods()) {
            if (method.getName().equals(name) && Modifier.isPublic(method.getModifiers())) {
                return method;
            }
        }
        throw new NoSuchMethodException("README.md calls " + name);
    }

    /** A long is written with its L, as Java wants it for a great one. */
    private static Object argument(String word, Class<?> type) throws ReflectiveOperationException {
        if (type == long.class && word.endsWith("L")) {
            return Long.parseLong(word.substring(0, word.length() - 1));
        }
        return word.startsWith("GosperFractions.") ? constant(word.substring("GosperFractions.".length())) : Integer.parseInt(word);
    }

    private static Object answer(String word) throws ReflectiveOperationException {
        if (word.equals("true") || word.equals("false")) {
            return word.equals("true");
        }
        return word.matches("-?\\d+") ? Integer.parseInt(word) : constant(word);
    }

    private static Object constant(String name) throws ReflectiveOperationException {
        return GosperFractions.class.getField(name).getInt(null);
    }

    private static void claims(String after, GosperFractions x, String text) {
        for (Matcher holds = HOLDS.matcher(text); holds.find();) {
            Due.holds(after, x, number(holds, 1), number(holds, 2), number(holds, 3));
        }
        for (Matcher chain = CHAIN.matcher(text); chain.find();) {
            String[] words = chain.group(2).split(", ");
            int[] terms = new int[words.length];
            for (int i = 0; i < words.length; i++) {
                terms[i] = Integer.parseInt(words[i]);
            }
            Due.chain(after, x, number(chain, 1), terms);
        }
    }

    private static int number(Matcher matcher, int group) {
        return Integer.parseInt(matcher.group(group));
    }

    private static void constants(String readme) throws ReflectiveOperationException {
        int shown = 0;
        for (Matcher row = CONSTANT.matcher(readme); row.find();) {
            Due.is("README.md, " + row.group(1), number(row, 2), (Integer) constant(row.group(1)));
            shown++;
        }
        Due.is("constants that README.md shows", shown, GosperFractions.class.getFields().length);
    }

    /** Every method stands in the table of calls as it is declared, and is called in a Java block. */
    private static void heads(String readme) {
        Set<String> shown = new TreeSet<>();
        for (Matcher head = HEAD.matcher(readme); head.find();) {
            shown.add(head.group(1).replaceAll(" \\w+(?=[,)])", ""));
        }
        Set<String> declared = new TreeSet<>();
        Set<String> names = new TreeSet<>();
        for (Method method : GosperFractions.class.getDeclaredMethods()) {
            if (Modifier.isPublic(method.getModifiers())) {
                declared.add(method.toString().replaceAll("^public |GosperFractions\\.", "").replace(",", ", "));
                names.add(method.getName());
            }
        }
        Due.is("README.md, heads " + shown + " of " + declared, shown.equals(declared), true);
        Due.is("README.md, calls of " + CALLED + " of " + names, CALLED.equals(names), true);
    }
}
