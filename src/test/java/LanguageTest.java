import java.io.IOException;
import java.nio.file.Files;
import java.nio.file.Path;
import java.util.regex.Matcher;
import java.util.regex.Pattern;

/** What of ../shared/LANGUAGE.md can be read off the words of the source; .ci/run starts it at the project's root. */
public final class LanguageTest {
    private static final String[] FORBIDDEN = {"float", "double", "String", "Math", "Integer", "Long", "System", "Arrays",
        "Object", "import", "package", "throw", "throws", "try", "catch", "synchronized", "assert", "instanceof", "null",
        "class GosperFractions.*\\bclass", "interface", "enum", "record", "protected", "equals", "hashCode", "toString"};
    private static final int MOST_LINES = 60;

    public static void main(String[] args) throws IOException {
        String source = Files.readString(Path.of("src/main/java/GosperFractions.java"));
        String code = source.replaceAll("(?s)/\\*.*?\\*/", " ").replaceAll("//[^\n]*", " ");
        for (String word : FORBIDDEN) {
            Due.is("uses of " + word, count(Pattern.compile("\\b" + word + "\\b", Pattern.DOTALL), code), 0);
        }
        Due.is("arrows and method references", count(Pattern.compile("->|::"), code), 0);
        Due.is("quotes", count(Pattern.compile("\""), code), 0);
        // Every array is made in a field's initialiser, with a constant length.
        int made = count(Pattern.compile("\\bnew\\b"), code);
        int fields = count(Pattern.compile("(?m)^    private final (int|long)\\[\\] \\w+ = new \\1\\[[A-Z_0-9]+\\];$"), code);
        Due.is("arrays made outside a field's initialiser", made - fields, 0);
        // Every static field is a constant of int or long.
        int statics = count(Pattern.compile("(?m)^    \\w+ static [^(\n]*;$"), code);
        int constants = count(Pattern.compile("(?m)^    (public|private) static final (int|long) [A-Z_]+ = -?[0-9]+L?;$"), code);
        Due.is("static fields that are no constants", statics - constants, 0);
        Due.is("calls inside a call's arguments", nestedCalls(code), 0);
        methodLengths(code);
        Due.end();
    }

    private static int count(Pattern pattern, String code) {
        int found = 0;
        for (Matcher matcher = pattern.matcher(code); matcher.find();) {
            found++;
        }
        return found;
    }

    /** A name before a bracket, but for the words that take one, is a call or a method's head. */
    private static int nestedCalls(String code) {
        Pattern call = Pattern.compile("\\b(?!if\\b|for\\b|while\\b|switch\\b|return\\b)\\w+\\(");
        int nested = 0;
        for (Matcher matcher = call.matcher(code); matcher.find();) {
            int open = 1;
            int end = matcher.end();
            while (open > 0 && end < code.length()) {
                open += code.charAt(end) == '(' ? 1 : code.charAt(end) == ')' ? -1 : 0;
                end++;
            }
            nested += count(call, code.substring(matcher.end(), end));
        }
        return nested;
    }

    private static void methodLengths(String code) {
        int length = 0;
        for (String line : code.split("\n")) {
            length = line.matches("    \\S.*\\{") ? 1 : length + 1;
            if (line.equals("    }")) {
                Due.is("a method of " + length + " lines is too long", length > MOST_LINES, false);
            }
        }
    }
}
