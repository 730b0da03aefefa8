import java.io.ByteArrayOutputStream;
import java.io.PrintStream;
import java.net.URL;
import java.net.URLClassLoader;
import java.nio.file.Files;
import java.nio.file.Path;
import javax.tools.JavaCompiler;
import javax.tools.ToolProvider;

/** The example of README.md, compiled as it stands there, prints what stands below it. Runs at the project's root. */
public final class ReadmeTest {
    private ReadmeTest() {
    }

    /** What stands in the first block of a sort. */
    private static String block(String page, String sort) {
        String head = "```" + sort + "\n";
        int from = page.indexOf(head) + head.length();
        return page.substring(from, page.indexOf("```", from));
    }

    private static String run(Path place) throws Exception {
        PrintStream out = System.out;
        ByteArrayOutputStream printed = new ByteArrayOutputStream();
        try (URLClassLoader loader = new URLClassLoader(new URL[] {place.toUri().toURL()})) {
            System.setOut(new PrintStream(printed, true));
            loader.loadClass("Example").getMethod("main", String[].class).invoke(null, (Object) new String[0]);
        } finally {
            System.setOut(out);
        }
        return printed.toString().replace(System.lineSeparator(), "\n");
    }

    public static void main(String[] args) throws Exception {
        String page = Files.readString(Path.of("README.md"));
        Path place = Files.createTempDirectory("readme");
        Path source = place.resolve("Example.java");
        Files.writeString(source, block(page, "java"));
        JavaCompiler compiler = ToolProvider.getSystemJavaCompiler();
        String classes = System.getProperty("java.class.path");
        Check.due("the example's compiler", compiler.run(null, null, null, "-cp", classes, "-d", place.toString(), source.toString()), 0);
        String got = run(place);
        String due = block(page, "text");
        Check.isTrue("the example prints:\n" + got + "and README.md tells:\n" + due + "alike", got.equals(due));
        for (Path made : new Path[] {place.resolve("Example.class"), source, place}) {
            Files.deleteIfExists(made);
        }
        Check.end();
    }
}
