import java.io.IOException;
import java.lang.reflect.InvocationTargetException;
import java.lang.reflect.Method;
import java.lang.reflect.Modifier;
import java.net.URL;
import java.net.URLClassLoader;
import java.nio.file.Files;
import java.nio.file.Path;
import java.util.ArrayList;
import java.util.List;
import java.util.regex.Matcher;
import java.util.regex.Pattern;
import java.util.stream.Stream;
import javax.tools.JavaCompiler;
import javax.tools.ToolProvider;

/**
 * The examples of README.md compile as they stand there, and each of their calls answers or throws what is
 * written behind it.
 */
public final class ReadmeTest {
    private static final Path PAGE = Path.of("README.md");
    private static final String WALK = "ReadmeExamples";
    private static final Pattern EXAMPLE = Pattern.compile("(?ms)^```java\\n(.*?)^```$");
    private static final Pattern CALL = Pattern.compile(
            "(?:(?:int|boolean|double) (\\w+) = )?(map\\.\\w+\\(.*\\)); +// (answers|throws) ([^\\s:]+)(?:: .+)?");
    // What stands without an answer: the new object, and the loop that appends a text.
    private static final List<Pattern> UNANSWERED = List.of(
            Pattern.compile("ContourLabels map = new ContourLabels\\(\\);"),
            Pattern.compile("for \\(char sign : \"[^\"]*\"\\.toCharArray\\(\\)\\) \\{"),
            Pattern.compile("    map\\.append\\(sign\\);"),
            Pattern.compile("\\}"));

    /** What a call of an example does, as the generated class hands it over. */
    public interface Call {
        Object answer();
    }

    private static int calls = 0;
    private static int wrong = 0;

    private ReadmeTest() {
    }

    public static void main(String[] args) throws Exception {
        String page = Files.readString(PAGE);
        runExamples(page);
        everyCallIsShown(page);
        listOfTests(page);
        System.out.println(wrong == 0 ? calls + " calls of README.md answer as it says" : wrong + " faults");
        if (wrong != 0) {
            System.exit(1);
        }
    }

    private static void wrong(String what) {
        wrong++;
        System.out.println(what);
    }

    /** The generated class calls this with each call of the examples. */
    public static void due(String call, String kind, String want, Call made) {
        calls++;
        String got;
        try {
            got = "answers " + made.answer();
        } catch (RuntimeException e) {
            got = "throws " + e.getClass().getSimpleName();
        }
        if (!got.equals(kind + " " + want)) {
            wrong(call + " " + got + ", README.md says: " + kind + " " + want);
        }
    }

    // ---- the examples

    private static void runExamples(String page) throws Exception {
        List<String> examples = new ArrayList<>();
        Matcher matcher = EXAMPLE.matcher(page);
        while (matcher.find()) {
            examples.add(matcher.group(1));
        }
        if (examples.isEmpty()) {
            wrong("README.md shows no example");
        }
        Path folder = Files.createTempDirectory("readme");
        try {
            compile(folder, source(examples));
            if (wrong == 0) {
                walk(folder);
            }
        } finally {
            delete(folder);
        }
    }

    /**
     * Each example twice: as it stands, so that it is sure to compile, and with its calls handed over. Both are
     * in methods of their own.
     */
    private static String source(List<String> examples) {
        StringBuilder source = new StringBuilder("public final class " + WALK + " {\n");
        StringBuilder walk = new StringBuilder("public static void walk() {\n");
        for (int number = 0; number < examples.size(); number++) {
            source.append("static void asItStands").append(number).append("() {\n");
            source.append(examples.get(number)).append("}\n");
            source.append("static void example").append(number).append("() {\n");
            for (String line : examples.get(number).split("\n")) {
                source.append(handedOver(line)).append('\n');
            }
            source.append("}\n");
            walk.append("example").append(number).append("();\n");
        }
        return source.append(walk).append("}\n}\n").toString();
    }

    private static String handedOver(String line) {
        Matcher matcher = CALL.matcher(line);
        if (!matcher.matches()) {
            if (!line.isBlank() && UNANSWERED.stream().noneMatch(it -> it.matcher(line).matches())) {
                wrong("README.md shows no answer: " + line);
            }
            return line;
        }
        String variable = matcher.group(1);
        String call = matcher.group(2);
        String before = variable == null ? "" : line.substring(0, line.indexOf(';') + 1) + " ";
        String made = variable == null ? call : variable;
        return before + "ReadmeTest.due(\"" + call.replace("\\", "\\\\").replace("\"", "\\\"") + "\", \""
                + matcher.group(3) + "\", \"" + matcher.group(4) + "\", () -> " + made + ");";
    }

    private static void compile(Path folder, String source) throws IOException {
        Path file = folder.resolve(WALK + ".java");
        Files.writeString(file, source);
        JavaCompiler compiler = ToolProvider.getSystemJavaCompiler();
        int result = compiler.run(null, null, null, "-encoding", "UTF-8", "-cp",
                System.getProperty("java.class.path"), "-d", folder.toString(), file.toString());
        if (result != 0) {
            wrong("the examples of README.md do not compile");
        }
    }

    private static void walk(Path folder) throws Exception {
        URL[] places = {folder.toUri().toURL()};
        try (URLClassLoader loader = new URLClassLoader(places, ReadmeTest.class.getClassLoader())) {
            loader.loadClass(WALK).getMethod("walk").invoke(null);
        } catch (InvocationTargetException e) {
            wrong("an example of README.md throws where it says nothing of it: " + e.getCause());
        }
    }

    private static void delete(Path folder) throws IOException {
        try (Stream<Path> files = Files.list(folder)) {
            for (Path file : files.toList()) {
                Files.delete(file);
            }
        }
        Files.delete(folder);
    }

    // ---- what the page must name

    private static void everyCallIsShown(String page) {
        for (Method method : ContourLabels.class.getDeclaredMethods()) {
            if (Modifier.isPublic(method.getModifiers()) && !page.contains("map." + method.getName() + "(")) {
                wrong("README.md shows no call of " + method.getName());
            }
        }
    }

    private static void listOfTests(String page) throws IOException {
        try (Stream<Path> files = Files.list(Path.of("src/test/java"))) {
            for (Path file : files.sorted().toList()) {
                String name = file.getFileName().toString().replace(".java", "");
                if (!page.contains("`" + name + "`")) {
                    wrong("README.md does not name " + name);
                }
            }
        }
    }
}
