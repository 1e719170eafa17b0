import java.io.File;
import java.io.IOException;
import java.lang.reflect.Method;
import java.lang.reflect.Modifier;
import java.net.URL;
import java.net.URLClassLoader;
import java.nio.file.Files;
import java.nio.file.Path;
import java.util.ArrayList;
import java.util.List;
import java.util.regex.Matcher;
import java.util.regex.Pattern;
import javax.tools.ToolProvider;

/** README.md: its example answers what it says, and it leaves out no public method and no test. */
public final class ReadmeTest {
    private static final Path BUILD = Path.of("build", "ReadmeExample");
    private static final Pattern CALL = Pattern.compile("(x\\.\\w+\\(.*?\\)); *// (-?\\d+)(:.*)?");

    private static final Checks checks = new Checks();

    public static void main(String[] args) throws IOException, ReflectiveOperationException {
        String readme = Files.readString(Path.of("README.md"));
        checks.begin("README.md");
        everyMethodIsTold(readme);
        everyTestIsNamed(readme);
        theExample(readme);
        checks.end();
    }

    private static void everyMethodIsTold(String readme) {
        for (Method method : SmithForms.class.getDeclaredMethods()) {
            if (Modifier.isPublic(method.getModifiers())) {
                checks.holds(method.getName() + " is told", readme.contains("`" + method.getName() + "("));
                checks.holds(method.getName() + " is in the example", method.getParameterCount() == 0
                        || readme.contains("\nx." + method.getName() + "("));
            }
        }
    }

    private static void everyTestIsNamed(String readme) {
        File[] tests = new File("src/test/java").listFiles((directory, name) -> name.endsWith("Test.java"));
        for (File test : tests) {
            checks.holds(test.getName() + " is named", readme.contains("`src/test/java/" + test.getName() + "`"));
        }
    }

    private static void theExample(String readme) throws IOException, ReflectiveOperationException {
        Matcher block = Pattern.compile("(?s)```java\n(.*?)```").matcher(readme);
        checks.holds("there is an example", block.find());
        List<String> lines = List.of(block.group(1).split("\n"));
        List<String> calls = new ArrayList<>();
        List<Long> due = new ArrayList<>();
        // The first line makes the object; every other one is a call with its answer.
        for (String line : lines.subList(1, lines.size())) {
            Matcher call = CALL.matcher(line);
            checks.holds("a call with its answer: " + line, call.matches());
            if (call.matches()) {
                calls.add(call.group(1));
                due.add(Long.valueOf(call.group(2)));
            }
        }
        long[] answers = answersOf(lines.get(0), calls);
        for (int i = 0; i < answers.length; i++) {
            checks.due(calls.get(i), answers[i], due.get(i));
        }
    }

    private static long[] answersOf(String making, List<String> calls) throws IOException, ReflectiveOperationException {
        String source = "public final class ReadmeExample {\n public static long[] answers() {\n" + making
                + "\n return new long[] {" + String.join(",\n", calls) + "};\n }\n}\n";
        Files.createDirectories(BUILD);
        Path file = Files.writeString(BUILD.resolve("ReadmeExample.java"), source);
        int exit = ToolProvider.getSystemJavaCompiler().run(null, null, null, "--release", "17", "-d", BUILD.toString(),
                "-classpath", System.getProperty("java.class.path"), file.toString());
        checks.due("javac of the example", exit, 0);
        try (URLClassLoader loader = new URLClassLoader(new URL[] {BUILD.toUri().toURL()})) {
            return (long[]) loader.loadClass("ReadmeExample").getMethod("answers").invoke(null);
        }
    }
}
