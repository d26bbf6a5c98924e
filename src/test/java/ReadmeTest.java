import java.io.ByteArrayOutputStream;
import java.io.IOException;
import java.io.PrintStream;
import java.lang.reflect.Method;
import java.lang.reflect.Modifier;
import java.net.URL;
import java.net.URLClassLoader;
import java.nio.file.Files;
import java.nio.file.Path;
import javax.tools.ToolProvider;

/** The example of README.md compiles and prints what the page says, and its table names every call. */
public final class ReadmeTest {
    private static final String PAGE = "README.md";

    private final Checks checks = new Checks();
    private final String page;

    private ReadmeTest() throws IOException {
        page = Files.readString(Path.of(PAGE));
    }

    public static void main(String[] args) throws IOException, ReflectiveOperationException {
        ReadmeTest test = new ReadmeTest();
        test.example();
        test.table();
        test.checks.end();
    }

    private void example() throws IOException, ReflectiveOperationException {
        Path folder = Files.createTempDirectory("readme");
        Path source = folder.resolve("Example.java");
        deleteAtEnd(folder, source, folder.resolve("Example.class"));
        Files.writeString(source, "public class Example { public static void main(String[] args) {\n"
                + block("java") + "} }\n");
        int failed = ToolProvider.getSystemJavaCompiler().run(null, null, null,
                "-cp", System.getProperty("java.class.path"), "-d", folder.toString(), source.toString());
        checks.due("the example's compiler", failed, 0);
        if (failed == 0) {
            String printed = printedIn(folder);
            checks.holds("the example prints what the page says, not:\n" + printed, printed.equals(block("text")));
        }
    }

    /** A folder ahead of what is in it: the last one named goes first. */
    private static void deleteAtEnd(Path... paths) {
        for (Path path : paths) {
            path.toFile().deleteOnExit();
        }
    }

    /** The first block of this kind. */
    private String block(String kind) {
        String begin = "```" + kind + "\n";
        int from = page.indexOf(begin);
        int to = from < 0 ? -1 : page.indexOf("```", from + begin.length());
        checks.holds("the page has a block of " + kind, to >= 0);
        return to < 0 ? "" : page.substring(from + begin.length(), to);
    }

    private static String printedIn(Path folder) throws IOException, ReflectiveOperationException {
        PrintStream screen = System.out;
        ByteArrayOutputStream printed = new ByteArrayOutputStream();
        URL[] places = {folder.toUri().toURL()};
        try (URLClassLoader loader = new URLClassLoader(places)) {
            System.setOut(new PrintStream(printed, true));
            Object noArguments = new String[0];
            loader.loadClass("Example").getMethod("main", String[].class).invoke(null, noArguments);
        } finally {
            System.setOut(screen);
        }
        return printed.toString().replace(System.lineSeparator(), "\n");
    }

    private void table() {
        for (Method method : Particleway.class.getDeclaredMethods()) {
            if (Modifier.isPublic(method.getModifiers())) {
                checks.holds("the page tells of " + method.getName(), page.contains("| `" + method.getName() + "("));
            }
        }
    }
}
