import java.io.IOException;
import java.io.PrintWriter;
import java.lang.reflect.Method;
import java.lang.reflect.Modifier;
import java.net.URL;
import java.net.URLClassLoader;
import java.nio.file.Files;
import java.nio.file.Path;
import java.util.List;
import java.util.stream.Stream;
import javax.tools.ToolProvider;

/** README.md says how the class is used and how its tests are run: what it says is so. */
public final class ReadmeTest {
    public static void main(String[] args) throws IOException, ReflectiveOperationException {
        Path main = Path.of(System.getProperty("main", "src/main/java/FlateFilter.java")).toAbsolutePath();
        Path root = main.getParent().resolve("../../..").normalize();
        String text = Files.readString(root.resolve("README.md"));
        exampleRuns(text);
        callsAreNamed(text);
        testsAreNamed(text, root);
        Check.end();
    }

    private static void exampleRuns(String text) throws IOException, ReflectiveOperationException {
        Check.sentence("README.md says how the class is used");
        int from = text.indexOf("```java\n") + 8;
        String example = text.substring(from, text.indexOf("```", from));
        Path room = Files.createTempDirectory("readme");
        Path file = room.resolve("Example.java");
        Files.writeString(file, "public class Example { public static String run() {\n" + example
                + "return packed + \" \" + size + \" \" + wrongSum + \" \" + x.out(0) + \" \" + x.cell(11); } }\n");
        int compiled = ToolProvider.getSystemJavaCompiler().run(null, null, null,
                "-cp", System.getProperty("java.class.path"), "-d", room.toString(), file.toString());
        Check.same("the example is compiled", compiled, 0);
        if (compiled == 0) {
            try (URLClassLoader loader = new URLClassLoader(new URL[] {room.toUri().toURL()})) {
                Object answer = loader.loadClass("Example").getMethod("run").invoke(null);
                int packed = Oracle.flate(Oracle.predicted(Check.text("abracadabra"), 15, 4, 1), 3).length;
                Check.same("the example's answers", answer.toString(), packed + " 11 false 97 97");
            }
        }
        remove(room);
    }

    private static void remove(Path room) throws IOException {
        try (Stream<Path> files = Files.list(room)) {
            for (Path file : files.toList()) {
                Files.delete(file);
            }
        }
        Files.delete(room);
    }

    private static void callsAreNamed(String text) {
        Check.sentence("README.md says how the class is used");
        for (Method method : FlateFilter.class.getDeclaredMethods()) {
            if (Modifier.isPublic(method.getModifiers())) {
                Check.yes(method.getName() + " is named", text.contains("`" + method.getName() + "("));
                for (Class<?> thrown : method.getExceptionTypes()) {
                    Check.yes(thrown.getSimpleName() + " is named", text.contains(thrown.getSimpleName()));
                }
            }
        }
    }

    private static void testsAreNamed(String text, Path root) throws IOException {
        Check.sentence("README.md says how its tests are run");
        Check.yes(".ci/run is named", text.contains(".ci/run"));
        try (Stream<Path> files = Files.list(root.resolve("src/test/java"))) {
            List<String> names = files.map(file -> file.getFileName().toString()).filter(name -> name.endsWith("Test.java"))
                    .map(name -> name.replace(".java", "")).sorted().toList();
            for (String name : names) {
                Check.yes(name + " is named", text.contains(name));
            }
        }
    }
}
