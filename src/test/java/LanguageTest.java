import java.io.IOException;
import java.nio.file.Files;
import java.nio.file.Path;
import java.util.regex.Matcher;
import java.util.regex.Pattern;

/** The language rules, as far as single words and signs of the source can tell. */
public final class LanguageTest {
    private static final Path SOURCE = Path.of("src/main/java/WahBitmapIndex.java");

    private static final String[] LEFT_OUT = {
        "package", "import", "interface", "enum", "record", "extends", "implements", "protected",
        "float", "double", "String", "Object", "Math", "Integer", "Long", "System", "Arrays",
        "null", "throw", "throws", "try", "catch", "finally", "synchronized", "assert",
        "instanceof", "var", "equals", "hashCode", "toString", "getClass", "clone",
    };

    public static void main(String[] args) throws IOException {
        String code = Files.readString(SOURCE)
            .replaceAll("(?s)/\\*.*?\\*/", " ")
            .replaceAll("//[^\n]*", " ");
        for (String word : LEFT_OUT) {
            Due.due("uses of " + word, uses(code, "\\b" + word + "\\b"), 0);
        }
        Due.due("lambdas and references", uses(code, "->|::"), 0);
        Due.due("strings", uses(code, "\""), 0);
        Due.due("classes", uses(code, "\\bclass\\b"), 1);
        int arrayFields = uses(code, "private final int\\[\\] \\w+ = new int\\[[A-Z_]+\\];");
        Due.due("things made outside the array fields", uses(code, "\\bnew\\b") - arrayFields, 0);
        Due.end();
    }

    private static int uses(String code, String pattern) {
        Matcher matcher = Pattern.compile(pattern).matcher(code);
        int count = 0;
        while (matcher.find()) {
            count++;
        }
        return count;
    }
}
