import java.io.IOException;
import java.io.StringWriter;
import java.lang.reflect.InvocationTargetException;
import java.net.URI;
import java.net.URL;
import java.net.URLClassLoader;
import java.nio.file.Files;
import java.nio.file.Path;
import java.util.List;
import java.util.regex.Matcher;
import java.util.regex.Pattern;
import javax.tools.JavaCompiler;
import javax.tools.JavaFileObject;
import javax.tools.SimpleJavaFileObject;
import javax.tools.ToolProvider;

/** The examples of README.md, compiled and run as one program: each call answers what stands behind it. */
public final class ReadmeTest {
    private static final Path README = Path.of("README.md");
    private static final Path DOCUMENT = Path.of("../shared/DOC.md");
    private static final Pattern EXAMPLE = Pattern.compile("(?s)```java\n(.*?)```");
    private static final Pattern ANSWERED = Pattern.compile("(x\\.(\\w+)\\(.*\\)); *// (-?\\d+|[A-Z]+)(:.*)?");

    private static int answers = 0;

    public static void main(String[] args) throws Exception {
        String readme = Files.readString(README);
        run(program(readme));
        Checks.due("answers that are told", answers >= 30 ? 1 : 0, 1);
        callsThatAreNoneOfTheDocument(readme);
        testsAreAllNamed(readme);
        Checks.end();
    }

    private static String program(String readme) {
        StringBuilder body = new StringBuilder();
        Matcher examples = EXAMPLE.matcher(readme);
        while (examples.find()) {
            for (String line : examples.group(1).split("\n")) {
                body.append(checked(line)).append('\n');
            }
        }
        return "final class Example { public static void main(String[] args) {\n" + body + "} }\n";
    }

    /** A line that tells an answer becomes a check of it; all others stay as they are. */
    private static String checked(String line) {
        Matcher told = ANSWERED.matcher(line);
        if (!told.matches()) {
            return line;
        }
        answers++;
        String want = told.group(3).matches("[A-Z]+") ? "VillageCuts." + told.group(3) : told.group(3);
        return "ReadmeTest.due(\"" + told.group(1) + "\", " + told.group(1) + ", " + want + ");";
    }

    /** Public, as the examples are loaded by a loader of their own. */
    public static void due(String call, long got, long want) {
        Checks.due("README.md: " + call, got, want);
    }

    private static void run(String program) throws Exception {
        Path out = Files.createTempDirectory("readme");
        JavaCompiler compiler = ToolProvider.getSystemJavaCompiler();
        JavaFileObject source = new SimpleJavaFileObject(URI.create("string:///Example.java"),
            JavaFileObject.Kind.SOURCE) {
            public CharSequence getCharContent(boolean ignoreEncodingErrors) {
                return program;
            }
        };
        StringWriter said = new StringWriter();
        List<String> options = List.of("-d", out.toString(), "-cp", System.getProperty("java.class.path"));
        if (!compiler.getTask(said, null, null, options, null, List.of(source)).call()) {
            Checks.wrong("README.md: its examples don't compile: " + said);
            return;
        }
        try (URLClassLoader loader = new URLClassLoader(new URL[] {out.toUri().toURL()})) {
            var main = loader.loadClass("Example").getDeclaredMethod("main", String[].class);
            main.setAccessible(true);
            main.invoke(null, (Object) new String[0]);
        } catch (InvocationTargetException e) {
            Checks.wrong("README.md: an example threw " + e.getCause());
        }
        Files.deleteIfExists(out.resolve("Example.class"));
        Files.deleteIfExists(out);
    }

    private static void callsThatAreNoneOfTheDocument(String readme) throws IOException {
        String document = Files.readString(DOCUMENT);
        Matcher calls = Pattern.compile("\\bx\\.(\\w+)\\(").matcher(readme);
        while (calls.find()) {
            Checks.due("a call of the document: " + calls.group(1), document.contains(" " + calls.group(1) + "(") ? 1 : 0,
                1);
        }
    }

    private static void testsAreAllNamed(String readme) throws IOException {
        try (var files = Files.list(Path.of("src/test/java"))) {
            files.map(f -> f.getFileName().toString()).filter(f -> f.endsWith("Test.java")).forEach(f ->
                Checks.due("README.md names " + f, readme.contains("`" + f.replace(".java", "") + "`") ? 1 : 0, 1));
        }
    }
}
