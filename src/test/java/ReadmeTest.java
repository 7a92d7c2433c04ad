import java.io.IOException;
import java.lang.reflect.Method;
import java.lang.reflect.Modifier;
import java.net.URL;
import java.net.URLClassLoader;
import java.nio.file.Files;
import java.nio.file.Path;
import java.util.ArrayList;
import java.util.List;
import java.util.regex.Matcher;
import java.util.regex.Pattern;
import javax.tools.ToolProvider;

/** The Java pieces of README.md show every method, and answer what is told behind the calls. */
public final class ReadmeTest {
    private static final String NAME = "ReadmePieces";
    private static final Pattern PIECE = Pattern.compile("(?s)```java\n(.*?)```");
    private static final Pattern CALL = Pattern.compile("(index\\..*);\\s*// ([-\\w]+).*");

    public static void main(String[] args) throws IOException, ReflectiveOperationException {
        List<String> lines = lines(Files.readString(Path.of("README.md")));
        showEveryMethod(String.join("\n", lines));
        Path folder = Files.createTempDirectory("readme");
        try {
            for (String[] told : run(lines, folder)) {
                Due.due(told[0], told[1], told[2]);
            }
        } finally {
            remove(folder);
        }
        Due.end();
    }

    private static List<String> lines(String text) {
        List<String> lines = new ArrayList<>();
        Matcher piece = PIECE.matcher(text);
        while (piece.find()) {
            lines.addAll(piece.group(1).lines().toList());
        }
        return lines;
    }

    private static void showEveryMethod(String pieces) {
        for (Method method : WahBitmapIndex.class.getDeclaredMethods()) {
            if (Modifier.isPublic(method.getModifiers())) {
                boolean shown = pieces.contains("index." + method.getName() + "(");
                Due.due("README.md shows " + method.getName(), shown, true);
            }
        }
    }

    private static String[][] run(List<String> lines, Path folder)
            throws IOException, ReflectiveOperationException {
        Path source = folder.resolve(NAME + ".java");
        Files.writeString(source, program(lines));
        int code = ToolProvider.getSystemJavaCompiler().run(null, System.out, System.out,
            "-cp", System.getProperty("java.class.path"), "-d", folder.toString(),
            source.toString());
        Due.due("exit code of javac for README.md", code, 0);
        if (code != 0) {
            return new String[0][];
        }
        try (URLClassLoader loader = new URLClassLoader(new URL[] {folder.toUri().toURL()})) {
            return (String[][]) loader.loadClass(NAME).getMethod("run").invoke(null);
        }
    }

    /** A class whose method run answers each call as a text, what it answered, and what is due. */
    private static String program(List<String> lines) {
        StringBuilder text = new StringBuilder("public final class " + NAME + " {\n"
            + "public static String[][] run() {\n"
            + "java.util.List<String[]> told = new java.util.ArrayList<>();\n");
        for (String line : lines) {
            Matcher call = CALL.matcher(line);
            text.append(call.matches() ? asked(call.group(1), call.group(2)) : line).append('\n');
        }
        return text + "return told.toArray(new String[0][]);\n}\n}\n";
    }

    private static String asked(String call, String want) {
        return "told.add(new String[] {\"" + call + "\", String.valueOf(" + call
            + "), String.valueOf(" + want + ")});";
    }

    private static void remove(Path folder) throws IOException {
        for (String ending : List.of(".java", ".class")) {
            Files.deleteIfExists(folder.resolve(NAME + ending));
        }
        Files.delete(folder);
    }
}
