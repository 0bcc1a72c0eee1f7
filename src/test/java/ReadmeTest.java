import java.io.ByteArrayOutputStream;
import java.io.PrintStream;
import java.lang.reflect.Method;
import java.net.URL;
import java.net.URLClassLoader;
import java.nio.file.Files;
import java.nio.file.Path;
import java.util.ArrayList;
import java.util.List;
import javax.tools.ToolProvider;

/** The programs that README.md shows do what the comments in them say: "// prints 42" behind a line that prints. */
public final class ReadmeTest {
    private static final String PRINTS = "// prints ";

    public static void main(String[] args) throws Exception {
        List<List<String>> examples = examples(Files.readAllLines(Path.of("README.md")));
        Check.same("programs in README.md", examples.size(), 2);
        for (int i = 0; i < examples.size(); i++) {
            lookAt("Example" + i, examples.get(i));
        }
        everyCallIsNamed(Files.readString(Path.of("README.md")));
        Check.done();
    }

    private static List<List<String>> examples(List<String> lines) {
        List<List<String>> found = new ArrayList<>();
        boolean inside = false;
        for (String line : lines) {
            if (line.equals("```java")) {
                inside = true;
                found.add(new ArrayList<>());
            } else if (line.startsWith("```")) {
                inside = false;
            } else if (inside) {
                found.get(found.size() - 1).add(line);
            }
        }
        return found;
    }

    private static void lookAt(String name, List<String> lines) throws Exception {
        List<String> due = new ArrayList<>();
        for (String line : lines) {
            int at = line.indexOf(PRINTS);
            if (at >= 0) {
                due.add(line.substring(at + PRINTS.length()));
            }
        }
        List<String> got = printed(name, String.join("\n", lines));
        Check.isTrue(name + " prints something", !due.isEmpty());
        Check.isTrue(name + " printed " + got + ", its comments say " + due, got.equals(due));
    }

    private static List<String> printed(String name, String body) throws Exception {
        Path directory = Files.createTempDirectory("readme");
        Path source = directory.resolve(name + ".java");
        Path compiled = directory.resolve(name + ".class");
        PrintStream console = System.out;
        ByteArrayOutputStream bytes = new ByteArrayOutputStream();
        try (URLClassLoader loader = new URLClassLoader(new URL[] {directory.toUri().toURL()})) {
            Files.writeString(source, "public class " + name + " { public static void main(String[] args) {\n" + body + "\n} }\n");
            compile(source, directory);
            System.setOut(new PrintStream(bytes, true));
            loader.loadClass(name).getMethod("main", String[].class).invoke(null, (Object) new String[0]);
        } finally {
            System.setOut(console);
            Files.deleteIfExists(source);
            Files.deleteIfExists(compiled);
            Files.deleteIfExists(directory);
        }
        return bytes.toString().lines().toList();
    }

    private static void compile(Path source, Path directory) {
        int code = ToolProvider.getSystemJavaCompiler().run(null, null, null,
            "-cp", System.getProperty("java.class.path"), "-d", directory.toString(), source.toString());
        Check.same("the compiler of " + source.getFileName(), code, 0);
    }

    private static void everyCallIsNamed(String text) {
        for (Method method : PipeKernel.class.getMethods()) {
            if (method.getDeclaringClass() == PipeKernel.class) {
                Check.isTrue("README.md names " + method.getName(), text.contains("| `" + method.getName() + "("));
            }
        }
    }
}
