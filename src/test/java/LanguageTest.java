import java.io.IOException;
import java.nio.file.Files;
import java.nio.file.Path;
import java.util.LinkedHashMap;
import java.util.Map;
import java.util.Set;
import java.util.TreeSet;
import java.util.regex.Matcher;
import java.util.regex.Pattern;

/** What of ../shared/LANGUAGE.md can be read off the words of the source; .ci/run starts it at the project's root. */
public final class LanguageTest {
    private static final String[] FORBIDDEN = {"float", "double", "String", "Math", "Integer", "Long", "System", "Arrays",
        "Object", "import", "package", "throw", "throws", "try", "catch", "synchronized", "assert", "instanceof", "null",
        "class GosperFractions.*\\bclass", "interface", "enum", "record", "protected", "equals", "hashCode", "toString"};
    private static final String TYPES = "(int|long|short|byte|char|boolean)";
    /** A name before a bracket, but for the words that take one, is a call or a method's head. */
    private static final Pattern CALL = Pattern.compile("\\b(?!if\\b|for\\b|while\\b|switch\\b|return\\b)(\\w+)\\(");
    private static final Pattern METHOD = Pattern.compile("(?ms)^    (?:public|private) [^=;{]*?(\\w+)\\(([^)]*)\\) \\{\n(.*?)^    }$");
    private static final int MOST_LINES = 60;
    private static final int MOST_PARAMETERS = 7;
    private static final int DEEPEST = 6;
    private static final int MOST_FIELDS = 40;

    public static void main(String[] args) throws IOException {
        String source = Files.readString(Path.of("src/main/java/GosperFractions.java"));
        String code = source.replaceAll("(?s)/\\*.*?\\*/", " ").replaceAll("//[^\n]*", " ");
        words(code);
        fields(code);
        loops(code);
        Due.is("calls inside a call's arguments", nestedCalls(code), 0);
        methods(code);
        Due.end();
    }

    private static void words(String code) {
        for (String word : FORBIDDEN) {
            Due.is("uses of " + word, count("(?s)\\b" + word + "\\b", code), 0);
        }
        Due.is("arrows and method references", count("->|::", code), 0);
        Due.is("quotes", count("\"", code), 0);
    }

    /** Rules 4 and 5: arrays come from fields' initialisers, with a constant length, and static fields are constants. */
    private static void fields(String code) {
        int arrays = count("(?m)^    private final " + TYPES + "\\[\\] \\w+ = new \\1\\[[A-Z_0-9]+\\];$", code);
        Due.is("arrays made outside a field's initialiser", count("\\bnew\\b", code) - arrays, 0);
        int constants = count("(?m)^    (public|private) static final (int|long) [A-Z_]+ = -?[0-9]+L?;$", code);
        Due.is("static fields that are no constants", count("(?m)^    \\w+ static [^(\n]*;$", code) - constants, 0);
        int fields = count("(?m)^    [^\\s}][^(\n]*;$", code) - constants;
        Due.is(fields + " fields are too many", fields > MOST_FIELDS, false);
    }

    /** Rule 8: the counter goes up to a bound in the loop's own head, the one form of a loop that this test can read. */
    private static void loops(String code) {
        int all = count("\\b(for|while|do)\\b", code);
        int counted = count("\\bfor \\(int (\\w+) = \\d+; \\1 < \\w+[^;|]*; \\1\\+\\+\\) \\{", code);
        Due.is("loops without a counter against a bound in their heads", all - counted, 0);
    }

    private static int nestedCalls(String code) {
        int nested = 0;
        for (Matcher matcher = CALL.matcher(code); matcher.find();) {
            int open = 1;
            int end = matcher.end();
            while (open > 0 && end < code.length()) {
                open += code.charAt(end) == '(' ? 1 : code.charAt(end) == ')' ? -1 : 0;
                end++;
            }
            nested += count(CALL.pattern(), code.substring(matcher.end(), end));
        }
        return nested;
    }

    /** Rules 8 and 10: no method comes back to itself, and each is short, takes few parameters and calls few deep. */
    private static void methods(String code) {
        Map<String, Set<String>> calls = new LinkedHashMap<>();
        int read = 0;
        for (Matcher method = METHOD.matcher(code); method.find();) {
            String name = method.group(1);
            int lines = method.group().split("\n").length;
            Due.is(name + ", of " + lines + " lines, is too long", lines > MOST_LINES, false);
            int parameters = method.group(2).split(",").length;
            Due.is(name + ", of " + parameters + " parameters, takes too many", parameters > MOST_PARAMETERS, false);
            calls.computeIfAbsent(name, same -> new TreeSet<>()).addAll(called(method.group(3)));
            read++;
        }
        Due.is("methods read", read, count("(?m)^    }$", code));
        for (String name : calls.keySet()) {
            int depth = depth(name, calls);
            Due.is(name + " goes " + depth + " deep", depth > DEEPEST, false);
        }
    }

    private static Set<String> called(String body) {
        Set<String> names = new TreeSet<>();
        for (Matcher call = CALL.matcher(body); call.find();) {
            names.add(call.group(1));
        }
        return names;
    }

    /** How many methods stand on each other at most, this one the first; a recursion goes deeper than any bound. */
    private static int depth(String name, Map<String, Set<String>> calls) {
        Set<String> level = Set.of(name);
        int depth = 0;
        while (!level.isEmpty() && depth <= calls.size()) {
            Set<String> next = new TreeSet<>();
            for (String caller : level) {
                Due.is(caller + " is a method of the class", calls.containsKey(caller), true);
                next.addAll(calls.getOrDefault(caller, Set.of()));
            }
            level = next;
            depth++;
        }
        return depth;
    }

    private static int count(String pattern, String code) {
        int found = 0;
        for (Matcher matcher = Pattern.compile(pattern).matcher(code); matcher.find();) {
            found++;
        }
        return found;
    }
}
