import java.io.ByteArrayOutputStream;
import java.io.IOException;
import java.io.PrintStream;
import java.net.URL;
import java.net.URLClassLoader;
import java.nio.file.Files;
import java.nio.file.Path;
import javax.tools.ToolProvider;

/** The example of README.md compiles as it stands there, and prints what stands behind it. Runs in the project's directory. */
public final class ReadmeTest {
    private static String block(String readme, String language) {
        String opening = "\n```" + language + "\n";
        int begin = readme.indexOf(opening) + opening.length();
        return readme.substring(begin, readme.indexOf("```", begin));
    }

    private static void compile(String program, Path directory) throws IOException {
        Path source = Files.writeString(directory.resolve("Example.java"), program);
        String classes = System.getProperty("java.class.path");
        int code = ToolProvider.getSystemJavaCompiler().run(null, null, null,
            "-cp", classes, "-d", directory.toString(), source.toString());
        Paper.due("javac of the example", Integer.toString(code), 0);
    }

    private static String output(Path directory) throws IOException, ReflectiveOperationException {
        PrintStream usual = System.out;
        ByteArrayOutputStream caught = new ByteArrayOutputStream();
        try (URLClassLoader loader = new URLClassLoader(new URL[] {directory.toUri().toURL()})) {
            System.setOut(new PrintStream(caught, true));
            loader.loadClass("Example").getMethod("main", String[].class).invoke(null, (Object) new String[0]);
        } finally {
            System.setOut(usual);
        }
        return caught.toString().replace(System.lineSeparator(), "\n");
    }

    private static void remove(Path directory) throws IOException {
        try (var files = Files.list(directory)) {
            for (Path file : files.toList()) {
                Files.delete(file);
            }
        }
        Files.delete(directory);
    }

    public static void main(String[] args) throws IOException, ReflectiveOperationException {
        String readme = Files.readString(Path.of("README.md"));
        Path directory = Files.createTempDirectory("readme");
        try {
            compile(block(readme, "java"), directory);
            Paper.due("the example", output(directory), block(readme, "text"));
        } finally {
            remove(directory);
        }
        Paper.end();
    }
}
