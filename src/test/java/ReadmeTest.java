import java.io.ByteArrayOutputStream;
import java.io.IOException;
import java.io.PrintStream;
import java.net.URL;
import java.net.URLClassLoader;
import java.nio.file.Files;
import java.nio.file.Path;
import java.util.regex.Matcher;
import java.util.regex.Pattern;
import javax.tools.ToolProvider;

/** README.md: its program prints what stands there, and its command is there to run the tests. */
public final class ReadmeTest {
    private static final Path FOLDER = Path.of("build", "readme");
    private static final String[] STEPS = {"new SizedTermination(", ".function(", ".node(", ".compile()",
        ".input(", ".start(", ".run(", ".resultLength()", ".resultElem("};

    public static void main(String[] args) throws Exception {
        String readme = Files.readString(Path.of("README.md"));
        String program = block(readme, "java");
        Due.same("compiled", compiled(program), true);
        Due.same("printed", printed(), block(readme, "text"));
        for (String step : STEPS) {
            Due.same("shows " + step, program.contains(step), true);
        }
        Due.same("tells the command of the tests", readme.contains("\n    .ci/run\n"), true);
        Due.same("the command can be run", Files.isExecutable(Path.of(".ci", "run")), true);
        Due.end();
    }

    private static String block(String readme, String language) {
        Pattern fenced = Pattern.compile("```" + language + "\n(.*?)```", Pattern.DOTALL);
        Matcher found = fenced.matcher(readme);
        return found.find() ? found.group(1) : "no block of " + language;
    }

    private static boolean compiled(String program) throws IOException {
        Files.createDirectories(FOLDER);
        Path source = FOLDER.resolve("Example.java");
        Files.writeString(source, program);
        int failed = ToolProvider.getSystemJavaCompiler().run(null, null, null, "-d",
            FOLDER.toString(), "-cp", System.getProperty("java.class.path"), source.toString());
        return failed == 0;
    }

    private static String printed() throws Exception {
        PrintStream console = System.out;
        ByteArrayOutputStream caught = new ByteArrayOutputStream();
        URL[] folder = {FOLDER.toUri().toURL()};
        try (URLClassLoader loader = new URLClassLoader(folder)) {
            System.setOut(new PrintStream(caught, true));
            Class<?> example = loader.loadClass("Example");
            example.getMethod("main", String[].class).invoke(null, (Object) new String[0]);
        } finally {
            System.setOut(console);
        }
        return caught.toString().replace(System.lineSeparator(), "\n");
    }
}
