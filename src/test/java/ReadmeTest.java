import java.io.ByteArrayOutputStream;
import java.io.IOException;
import java.io.PrintStream;
import java.lang.reflect.Method;
import java.lang.reflect.Modifier;
import java.net.URL;
import java.net.URLClassLoader;
import java.nio.charset.StandardCharsets;
import java.nio.file.Files;
import java.nio.file.Path;
import javax.tools.ToolProvider;

/** README.md says how to use the class: its example must print what it says, and no call may be left out. */
public final class ReadmeTest {
    private static final Path README = Path.of("README.md");

    public static void main(String[] args) throws ReflectiveOperationException, IOException {
        Check check = new Check();
        String readme = Files.readString(README);
        for (Method method : KiteRoofs.class.getDeclaredMethods()) {
            if (Modifier.isPublic(method.getModifiers())) {
                check.due(method.getName() + " is named", readme.contains("`" + method.getName() + "`"), true);
            }
        }
        String[] printed = printedBy(block(readme, "java")).split("\n");
        String[] said = block(readme, "text").split("\n");
        check.due("lines of the example", printed.length, said.length);
        for (int i = 0; i < Math.min(printed.length, said.length); i++) {
            check.due("'" + said[i] + "', printed is '" + printed[i] + "'", printed[i].equals(said[i]), true);
        }
        check.finish("ReadmeTest");
    }

    private static String block(String readme, String language) {
        String open = "```" + language + "\n";
        int from = readme.indexOf(open);
        int to = readme.indexOf("```", from + open.length());
        return from < 0 || to < 0 ? "" : readme.substring(from + open.length(), to);
    }

    private static String printedBy(String source) throws ReflectiveOperationException, IOException {
        Path directory = Files.createTempDirectory("readme");
        Path file = directory.resolve("Example.java");
        Path compiled = directory.resolve("Example.class");
        PrintStream usual = System.out;
        ByteArrayOutputStream printed = new ByteArrayOutputStream();
        try {
            Files.writeString(file, source);
            String[] options = {
                "-d", directory.toString(), "-cp", System.getProperty("java.class.path"), file.toString()
            };
            if (ToolProvider.getSystemJavaCompiler().run(null, null, null, options) != 0) {
                return "the example does not compile";
            }
            System.setOut(new PrintStream(printed, true, StandardCharsets.UTF_8));
            try (URLClassLoader loader = new URLClassLoader(new URL[] {directory.toUri().toURL()})) {
                loader.loadClass("Example").getMethod("main", String[].class).invoke(null, (Object) new String[0]);
            }
        } finally {
            System.setOut(usual);
            Files.deleteIfExists(compiled);
            Files.deleteIfExists(file);
            Files.deleteIfExists(directory);
        }
        return printed.toString(StandardCharsets.UTF_8);
    }
}
