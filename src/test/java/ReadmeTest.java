import java.io.ByteArrayOutputStream;
import java.io.IOException;
import java.io.PrintStream;
import java.net.URL;
import java.net.URLClassLoader;
import java.nio.charset.StandardCharsets;
import java.nio.file.Files;
import java.nio.file.Path;
import javax.tools.ToolProvider;

/** What README.md shows is so: its example is compiled, and prints what stands there. */
public final class ReadmeTest {
    public static void main(String[] args) throws IOException, ReflectiveOperationException {
        String readme = Files.readString(Path.of("README.md"));
        Path folder = Files.createTempDirectory("readme");
        Path source = Files.writeString(folder.resolve("Example.java"), block(readme, "```java\n"));
        Path made = folder.resolve("Example.class");
        int compiled = ToolProvider.getSystemJavaCompiler().run(null, null, null,
            "-d", folder.toString(), "-cp", System.getProperty("java.class.path"), source.toString());
        Check.due("the example compiles", compiled, 0);
        if (compiled == 0) {
            String printed = run(folder);
            Check.due("the example prints\n" + printed, printed.equals(block(readme, "```text\n")), true);
        }
        Files.deleteIfExists(made);
        Files.delete(source);
        Files.delete(folder);
        Check.due("it says how the tests are run", readme.contains("\n    .ci/run\n"), true);
        Check.finish();
    }

    private static String block(String readme, String mark) {
        int from = readme.indexOf(mark) + mark.length();
        return readme.substring(from, readme.indexOf("```", from));
    }

    private static String run(Path folder) throws IOException, ReflectiveOperationException {
        PrintStream out = System.out;
        ByteArrayOutputStream printed = new ByteArrayOutputStream();
        try (URLClassLoader loader = new URLClassLoader(new URL[] {folder.toUri().toURL()})) {
            System.setOut(new PrintStream(printed, true, StandardCharsets.UTF_8));
            loader.loadClass("Example").getMethod("main", String[].class).invoke(null, (Object) new String[0]);
        } finally {
            System.setOut(out);
        }
        return printed.toString(StandardCharsets.UTF_8).replace("\r", "");
    }
}
