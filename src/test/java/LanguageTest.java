import java.io.IOException;
import java.lang.reflect.Constructor;
import java.lang.reflect.Field;
import java.lang.reflect.Method;
import java.lang.reflect.Modifier;
import java.nio.file.Files;
import java.nio.file.Path;
import java.util.ArrayList;
import java.util.List;
import java.util.Set;
import java.util.TreeSet;
import java.util.regex.Matcher;
import java.util.regex.Pattern;
import java.util.stream.Stream;

/** The rules of LANGUAGE.md that can be seen from the text of the class, or from the class itself. */
public final class LanguageTest {
    private static final Set<String> PLAIN_MATH = Set.of("max", "min", "abs", "floorDiv", "floorMod");

    public static void main(String[] args) throws IOException {
        Path file = Path.of(System.getProperty("main", "src/main/java/FlateFilter.java"));
        String text = withoutComments(Files.readString(file));
        oneFile(file);
        faceOnly();
        words(text);
        library(text);
        exceptions(text);
        staticState();
        sizes(text);
        objects(text);
        Check.end();
    }

    private static String withoutComments(String text) {
        return text.replaceAll("(?s)/\\*.*?\\*/", "").replaceAll("//[^\n]*", "").replaceAll("\"[^\"\n]*\"", "\"\"");
    }

    private static List<Class<?>> classes() {
        List<Class<?>> all = new ArrayList<>(List.of(FlateFilter.class.getDeclaredClasses()));
        all.add(FlateFilter.class);
        return all;
    }

    private static void oneFile(Path file) throws IOException {
        Check.sentence("The program is one file, without a package line");
        try (Stream<Path> beside = Files.list(file.toAbsolutePath().getParent())) {
            Check.same("files", beside.count(), 1);
        }
        Check.no("a package line", Files.readString(file).startsWith("package"));
    }

    private static void faceOnly() {
        Check.sentence("1. The face");
        TreeSet<String> face = new TreeSet<>();
        for (Method method : FlateFilter.class.getDeclaredMethods()) {
            if (Modifier.isPublic(method.getModifiers())) {
                face.add(method.getName());
            }
        }
        for (Class<?> one : classes()) {
            if (one != FlateFilter.class) {
                Check.yes(one.getName() + " is static", Modifier.isStatic(one.getModifiers()));
                Check.no(one.getName() + " is public", Modifier.isPublic(one.getModifiers()));
            }
            for (Method method : one.getDeclaredMethods()) {
                Check.no(one.getName() + "." + method.getName() + " bears a public one's name",
                        Modifier.isPrivate(method.getModifiers()) && face.contains(method.getName()));
            }
        }
    }

    private static void absent(String text, String... patterns) {
        for (String pattern : patterns) {
            Matcher matcher = Pattern.compile(pattern).matcher(text);
            Check.same("no " + pattern, matcher.find() ? matcher.group() : "", "");
        }
    }

    private static void words(String text) {
        Check.sentence("2., 6., 13. What the rules leave out");
        absent(text, "->", "::", "\\bsynchronized\\b", "\\bassert\\b", "\\bfinally\\b", "\\bvolatile\\b", "\\bnative\\b",
                "\\bThread\\b", "\\bRandom\\b", "currentTimeMillis", "nanoTime", "\\bhashCode\\b", "\\btoString\\b",
                "\\bgetMessage\\b", "\\bcatch\\b", "\\btry\\b", "\\bdouble\\b", "\\bfloat\\b", "\\bstatic\\s*\\{",
                "\\[\\]\\[\\]\\[\\]", "Exact\\b", "\\bvar\\b", "@\\w+");
    }

    private static void library(String text) {
        Check.sentence("4. The library: only what stands here");
        Matcher imports = Pattern.compile("import ([\\w.]+);").matcher(text);
        while (imports.find()) {
            Check.same("import", imports.group(1), "java.util.Arrays");
        }
        Matcher calls = Pattern.compile("\\b(Math|Arrays|System|Integer|Long)\\.(\\w+)").matcher(text);
        while (calls.find()) {
            String name = calls.group(2);
            boolean good = switch (calls.group(1)) {
                case "Math" -> PLAIN_MATH.contains(name);
                case "Arrays" -> name.equals("fill") || name.equals("copyOf") || name.equals("copyOfRange");
                case "System" -> name.equals("arraycopy");
                default -> false;
            };
            Check.yes(calls.group(), good);
        }
    }

    private static void exceptions(String text) {
        Check.sentence("6. Exceptions");
        // The last one is not in the rule, but the document names it for out and cell.
        Set<String> named = Set.of("IllegalArgumentException", "UnsupportedOperationException",
                "ArrayIndexOutOfBoundsException");
        Matcher thrown = Pattern.compile("\\bthrow\\b\\s+(new (\\w+)\\(\"\"\\))?").matcher(text);
        while (thrown.find()) {
            Check.yes("throw " + thrown.group(2), thrown.group(2) != null && named.contains(thrown.group(2)));
        }
    }

    private static void staticState() {
        Check.sentence("5. Static fields are final");
        Set<Class<?>> plain = Set.of(int.class, long.class, boolean.class, char.class, String.class, int[].class,
                long[].class, char[].class, byte[].class);
        for (Class<?> one : classes()) {
            for (Field field : one.getDeclaredFields()) {
                if (Modifier.isStatic(field.getModifiers())) {
                    Check.yes(one.getName() + "." + field.getName(),
                            Modifier.isFinal(field.getModifiers()) && plain.contains(field.getType()));
                }
            }
        }
    }

    private static void sizes(String text) {
        Check.sentence("11. seven parameters, sixty lines, twelve classes, twenty fields");
        Check.yes("classes: " + classes().size(), classes().size() <= 12);
        for (Class<?> one : classes()) {
            int fields = 0;
            for (Field field : one.getDeclaredFields()) {
                fields += Modifier.isStatic(field.getModifiers()) ? 0 : 1;
            }
            Check.yes("fields of " + one.getName() + ": " + fields, fields <= 20);
            for (Method method : one.getDeclaredMethods()) {
                Check.yes("parameters of " + method.getName(), method.getParameterCount() <= 7);
            }
            for (Constructor<?> made : one.getDeclaredConstructors()) {
                Check.yes("parameters of " + one.getName(), made.getParameterCount() <= 7);
            }
        }
        Matcher methods = Pattern.compile("(?ms)^( {4}| {8})(?! )[\\w\\[\\] ]+\\([^;{}]*\\{\n.*?^\\1\\}").matcher(text);
        int found = 0;
        while (methods.find()) {
            found++;
            Check.yes("lines of " + methods.group().strip().lines().findFirst().orElse(""),
                    methods.group().lines().count() <= 60);
        }
        Check.yes("methods were found: " + found, found > 100);
    }

    /** All rows are made by constructors, so that a run makes no more than one object's worth of them. */
    private static void objects(String text) {
        Check.sentence("12. An object may be made by any method; what a run makes is counted");
        Matcher made = Pattern.compile("(?m)^.*\\bnew\\b.*$").matcher(text);
        while (made.find()) {
            String line = made.group().strip();
            boolean row = line.matches("(\\w+|this\\.\\w+|Codes \\w+) = new [\\w\\[\\].(), +*]+;");
            Check.yes(line, row || line.startsWith("throw new "));
        }
    }
}
