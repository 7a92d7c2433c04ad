import java.io.IOException;
import java.nio.file.Files;
import java.nio.file.Path;
import java.util.regex.Matcher;
import java.util.regex.Pattern;

/** The language rules, as far as single words and signs of the source can tell. */
public final class LanguageTest {
    private static final Path SOURCE = Path.of("src/main/java/WahBitmapIndex.java");

    private static final String[] LEFT_OUT = {
        "package", "import", "interface", "enum", "extends", "implements", "protected", "float",
        "double", "String", "Object", "Math", "Integer", "Long", "System", "Arrays", "null",
        "throw", "throws", "try", "catch", "finally", "synchronized", "assert", "instanceof",
    };

    private static final String OBJECT_METHOD =
        "\\b(equals|hashCode|toString|getClass|clone|wait|notify|notifyAll|finalize)\\s*\\(";
    private static final String CASE_ARROW = "\\b(case\\b[^:;{}]*?|default\\s*)->";
    private static final String ARRAY_MADE =
        "\\bnew\\s+(int|long|short|byte|char|boolean)\\s*\\[";

    public static void main(String[] args) throws IOException {
        String code = Files.readString(SOURCE)
            .replaceAll("(?s)/\\*.*?\\*/", " ")
            .replaceAll("//[^\n]*", " ");
        for (String word : LEFT_OUT) {
            Due.due("uses of " + word, uses(code, "\\b" + word + "\\b"), 0);
        }
        Due.due("records", uses(code, "\\brecord\\s+\\w+\\s*[(<]"), 0);
        Due.due("calls of Object's methods", uses(code, OBJECT_METHOD), 0);
        Due.due("lambdas", uses(code, "->") - uses(code, CASE_ARROW), 0);
        Due.due("method references", uses(code, "::"), 0);
        Due.due("strings", uses(code, "\""), 0);
        Due.due("classes", uses(code, "\\bclass\\b"), 1);
        Due.due("arrays of arrays", uses(code, "\\]\\s*\\[\\s*\\]"), 0);
        Due.due("static arrays", uses(code, "\\bstatic\\b[^;(]*\\[[^;(]*[;=]"), 0);
        Due.due("objects made", uses(code, "\\bnew\\b") - uses(code, ARRAY_MADE), 0);
        Due.end();
    }

    private static int uses(String code, String pattern) {
        Matcher matcher = Pattern.compile(pattern).matcher(code);
        int count = 0;
        while (matcher.find()) {
            count++;
        }
        return count;
    }
}
