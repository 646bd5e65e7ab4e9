import java.io.StringWriter;
import java.lang.reflect.InvocationTargetException;
import java.lang.reflect.Method;
import java.lang.reflect.Modifier;
import java.net.URL;
import java.net.URLClassLoader;
import java.nio.file.DirectoryStream;
import java.nio.file.Files;
import java.nio.file.Path;
import java.util.List;
import java.util.TreeSet;
import java.util.regex.Matcher;
import java.util.regex.Pattern;
import javax.tools.JavaCompiler;
import javax.tools.ToolProvider;

/**
 * README.md is true: its Java compiles as it stands, each call that it shows answers as it says, each call of the face is
 * shown, the tests that it names are the ones that there are, and the command that it names is there and runs them.
 */
public final class ReadmeTest extends Checks {
    private static final Pattern BLOCK = Pattern.compile("(?s)```java\n(.*?)```");
    private static final Pattern SHOWN = Pattern.compile("(x\\.([a-z]+)\\(.*\\)); *// (-?\\d+)(:.*)?");
    private static final Pattern HELPED = Pattern.compile("OneWhistle x = new OneWhistle\\(\\);|typeText\\(x, \".*\"\\);");
    private static final Pattern TEST = Pattern.compile("(?m)^- `([A-Za-z]+)`: ");

    private static final TreeSet<String> shownCalls = new TreeSet<>();

    public static void main(String[] args) throws Exception {
        String page = Files.readString(Path.of("README.md"));
        runAll(pageAsJava(page));
        same("the calls that are shown", shownCalls.toString(), faceCalls().toString());
        same("the tests that are named", namedTests(page).toString(), ownTests().toString());
        checkCommand(page);
        close("README.md is true");
    }

    /** A class with the page's helpers as they stand, and a method for each of its examples. */
    private static String pageAsJava(String page) {
        StringBuilder source = new StringBuilder("public final class Shown {\n");
        Matcher block = BLOCK.matcher(page);
        int examples = 0;
        while (block.find()) {
            String code = block.group(1);
            if (code.startsWith("static ")) {
                source.append(code);
                continue;
            }
            examples++;
            source.append("public static void example").append(examples).append("() {\n");
            for (String line : code.split("\n")) {
                source.append(lineAsJava(line)).append('\n');
            }
            source.append("}\n");
        }
        due("whether there are examples", examples > 0 ? 1 : 0, 1);
        return source.append("}\n").toString();
    }

    private static String lineAsJava(String line) {
        Matcher shown = SHOWN.matcher(line);
        if (shown.matches()) {
            shownCalls.add(shown.group(2));
            return "ReadmeTest.answer(\"" + shown.group(1) + "\", " + shown.group(1) + ", " + shown.group(3) + "L);";
        }
        due("whether the line <" + line + "> tells its answer", HELPED.matcher(line).matches() ? 1 : 0, 1);
        return line;
    }

    /** Called by the class that was made of the page, which another loader loads. */
    public static void answer(String call, long got, long want) {
        due(call, got, want);
    }

    private static void runAll(String source) throws Exception {
        JavaCompiler compiler = ToolProvider.getSystemJavaCompiler();
        Path made = Files.createTempDirectory("readme");
        Path file = Files.writeString(made.resolve("Shown.java"), source);
        StringWriter told = new StringWriter();
        List<String> options = List.of("-cp", System.getProperty("java.class.path"), "-d", made.toString());
        boolean compiled = compiler.getTask(told, null, null, options, null,
            compiler.getStandardFileManager(null, null, null).getJavaFileObjects(file)).call();
        same("the compiler", told.toString(), "");
        if (compiled) {
            runExamples(made);
        }
        Files.deleteIfExists(made.resolve("Shown.class"));
        Files.delete(file);
        Files.delete(made);
    }

    private static void runExamples(Path made) throws Exception {
        try (URLClassLoader loader = new URLClassLoader(new URL[] {made.toUri().toURL()})) {
            for (Method example : loader.loadClass("Shown").getMethods()) {
                if (example.getName().startsWith("example")) {
                    example.invoke(null);
                }
            }
        } catch (InvocationTargetException thrown) {
            same("an example", thrown.getCause().toString(), "nothing thrown");
        }
    }

    private static TreeSet<String> faceCalls() {
        TreeSet<String> calls = new TreeSet<>();
        for (Method method : OneWhistle.class.getDeclaredMethods()) {
            if (Modifier.isPublic(method.getModifiers())) {
                calls.add(method.getName());
            }
        }
        return calls;
    }

    private static TreeSet<String> namedTests(String page) {
        TreeSet<String> named = new TreeSet<>();
        String tests = page.substring(page.indexOf("## Tests"), page.indexOf("## How it works"));
        Matcher test = TEST.matcher(tests);
        while (test.find()) {
            named.add(test.group(1));
        }
        return named;
    }

    private static TreeSet<String> ownTests() throws Exception {
        TreeSet<String> own = new TreeSet<>();
        try (DirectoryStream<Path> files = Files.newDirectoryStream(Path.of("src/test/java"), "*.java")) {
            for (Path file : files) {
                own.add(file.getFileName().toString().replace(".java", ""));
            }
        }
        return own;
    }

    private static void checkCommand(String page) throws Exception {
        due("whether the page names .ci/run", page.contains("\n    .ci/run\n") ? 1 : 0, 1);
        due("whether .ci/run can be run", Files.isExecutable(Path.of(".ci/run")) ? 1 : 0, 1);
        String script = Files.readString(Path.of(".ci/run"));
        due("whether it runs the tests of the project", script.contains("src/test/java/*.java") ? 1 : 0, 1);
        due("whether it runs the shared tests", script.contains("shared=../shared/tests\n")
            && script.contains("\"$shared\"/*.java") ? 1 : 0, 1);
    }
}
