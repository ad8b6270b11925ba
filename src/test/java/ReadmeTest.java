import java.io.ByteArrayOutputStream;
import java.io.IOException;
import java.io.PrintStream;
import java.lang.reflect.Method;
import java.lang.reflect.Modifier;
import java.nio.charset.StandardCharsets;
import java.nio.file.DirectoryStream;
import java.nio.file.Files;
import java.nio.file.Path;
import java.util.ArrayList;
import java.util.List;
import java.util.Map;
import java.util.regex.Matcher;
import java.util.regex.Pattern;

/** README.md says how to use the class and how to run its tests: its example answers what it says. */
public final class ReadmeTest {
    private static final Checks CHECKS = new Checks("ReadmeTest");
    private static final Pattern PROGRAM = Pattern.compile("```java\n(.*?)```", Pattern.DOTALL);
    private static final Pattern SAID = Pattern.compile("println\\(.*\\); *// (-?\\d+)");

    private static final class Loader extends ClassLoader {
        Loader() {
            super(ReadmeTest.class.getClassLoader());
        }

        Class<?> define(String name, byte[] bytes) {
            return defineClass(name, bytes, 0, bytes.length);
        }
    }

    public static void main(String[] args) throws IOException, ReflectiveOperationException {
        String readme = Files.readString(Path.of("README.md"));
        theExampleAnswersWhatItSays(readme);
        everyMethodIsTold(readme);
        everyTestIsTold(readme);
        CHECKS.end();
    }

    private static void theExampleAnswersWhatItSays(String readme) throws IOException, ReflectiveOperationException {
        Matcher program = PROGRAM.matcher(readme);
        if (!program.find()) {
            CHECKS.holds("README.md has an example", false);
            return;
        }
        List<String> due = new ArrayList<>();
        Matcher said = SAID.matcher(program.group(1));
        while (said.find()) {
            due.add(said.group(1));
        }
        List<String> got = outputOf(program.group(1));
        CHECKS.holds("the example tells answers", !due.isEmpty());
        CHECKS.holds("the example prints " + got + ", README.md says " + due, got.equals(due));
    }

    private static List<String> outputOf(String program) throws IOException, ReflectiveOperationException {
        Map<String, byte[]> classFiles = Javac.compile(Map.of("Example", program));
        Class<?> example = new Loader().define("Example", classFiles.get("Example"));
        PrintStream before = System.out;
        ByteArrayOutputStream printed = new ByteArrayOutputStream();
        System.setOut(new PrintStream(printed, true, StandardCharsets.UTF_8));
        try {
            example.getMethod("main", String[].class).invoke(null, (Object) new String[0]);
        } finally {
            System.setOut(before);
        }
        return printed.toString(StandardCharsets.UTF_8).lines().toList();
    }

    private static void everyMethodIsTold(String readme) {
        for (Method method : ModuleScanner.class.getDeclaredMethods()) {
            if (Modifier.isPublic(method.getModifiers())) {
                CHECKS.holds("README.md tells " + method.getName(), readme.contains("| `" + method.getName() + "("));
            }
        }
    }

    private static void everyTestIsTold(String readme) throws IOException {
        CHECKS.holds("README.md tells how to run the tests", readme.contains(".ci/run"));
        try (DirectoryStream<Path> tests = Files.newDirectoryStream(Path.of("src/test/java"), "*Test.java")) {
            for (Path test : tests) {
                String name = test.getFileName().toString().replace(".java", "");
                CHECKS.holds("README.md tells of " + name, readme.contains("| `" + name + "` |"));
            }
        }
    }
}
