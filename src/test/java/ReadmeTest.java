import java.io.ByteArrayOutputStream;
import java.lang.reflect.Constructor;
import java.lang.reflect.Method;
import java.lang.reflect.Modifier;
import java.nio.charset.StandardCharsets;
import java.nio.file.Files;
import java.nio.file.Path;
import java.util.regex.Matcher;
import java.util.regex.Pattern;
import javax.tools.ToolProvider;

/** README.md tells the truth: its program compiles and prints what is said, and its table has every call. */
public final class ReadmeTest {
    public static void main(String[] args) throws Exception {
        String readme = Files.readString(Path.of("README.md"));
        Path room = Files.createTempDirectory("readme");
        try {
            example(readme, room);
        } finally {
            empty(room);
        }
        calls(readme);
        Check.due("README.md names the command of the tests", readme.contains("\n    .ci/run\n"), true);
        Check.end("ReadmeTest");
    }

    private static void example(String readme, Path room) throws Exception {
        Path source = room.resolve("Example.java");
        Files.writeString(source, block(readme, "java"));
        ByteArrayOutputStream said = new ByteArrayOutputStream();
        int code = ToolProvider.getSystemJavaCompiler().run(null, said, said, "-d", room.toString(),
                "src/main/java/GameHall.java", source.toString());
        Check.due("compiling the example: " + said, code, 0);
        Path output = room.resolve("output");
        Process run = new ProcessBuilder(System.getProperty("java.home") + "/bin/java", "-cp", room.toString(), "Example")
                .redirectErrorStream(true).redirectOutput(output.toFile()).start();
        Check.due("running the example", run.waitFor(), 0);
        Check.due("the example", Files.readString(output, StandardCharsets.UTF_8), block(readme, "text"));
    }

    /** What stands in the first block of a language. */
    private static String block(String readme, String language) {
        Matcher matcher = Pattern.compile("```" + language + "\n(.*?)```", Pattern.DOTALL).matcher(readme);
        return matcher.find() ? matcher.group(1) : "no block of " + language;
    }

    private static void calls(String readme) {
        for (Constructor<?> made : GameHall.class.getConstructors()) {
            row(readme, "new " + made.getName(), made.getParameterCount());
        }
        for (Method method : GameHall.class.getDeclaredMethods()) {
            if (Modifier.isPublic(method.getModifiers())) {
                row(readme, method.getName(), method.getParameterCount());
            }
        }
    }

    /** That the table has a row with the call, and as many arguments as it takes. */
    private static void row(String readme, String name, int arguments) {
        String inside = arguments == 0 ? "" : "\\w+(, \\w+){" + (arguments - 1) + "}";
        Pattern row = Pattern.compile("^\\| `" + name + "\\(" + inside + "\\)` \\| \\S", Pattern.MULTILINE);
        Check.due("README.md has a row for " + name, row.matcher(readme).find(), true);
    }

    private static void empty(Path room) throws Exception {
        try (var files = Files.list(room)) {
            for (Path file : files.toList()) {
                Files.delete(file);
            }
        }
        Files.delete(room);
    }
}
