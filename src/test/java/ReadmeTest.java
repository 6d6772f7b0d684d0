import java.io.IOException;
import java.lang.reflect.Method;
import java.lang.reflect.Modifier;
import java.nio.file.Files;
import java.nio.file.Path;
import java.util.regex.Matcher;
import java.util.regex.Pattern;

/** The example of README.md answers as README.md says, and its table has every call of the face. */
public final class ReadmeTest {
    private static final Due due = new Due("ReadmeTest");
    private static final Pattern EXAMPLE_ROW = Pattern.compile("kernel\\.(\\w+\\([^)]*\\));\\s*// ([^\\s:]+)(?::.*)?");

    public static void main(String[] args) throws IOException {
        String readme = Files.readString(Path.of("README.md"));
        example(readme);
        table(readme);
        tests(readme);
        due.end();
    }

    private static void example(String readme) {
        StringBuilder script = new StringBuilder();
        int rows = 0;
        for (String line : readme.split("\n")) {
            Matcher row = EXAMPLE_ROW.matcher(line);
            if (row.matches()) {
                script.append(row.group(1)).append(" = ").append(row.group(2)).append('\n');
                rows++;
            } else {
                due.no("the example's row " + line + " is not read", line.startsWith("kernel."));
            }
        }
        due.yes("there is an example", rows > 0);
        new Script(script.toString()).run(new PagerKernel(), due, "the example");
    }

    private static void table(String readme) {
        for (Method method : PagerKernel.class.getDeclaredMethods()) {
            if (Modifier.isPublic(method.getModifiers())) {
                due.yes("the table has " + method.getName(), readme.contains("\n| `" + method.getName() + "("));
            }
        }
    }

    private static void tests(String readme) throws IOException {
        try (var files = Files.newDirectoryStream(Path.of("src/test/java"), "*Test.java")) {
            for (Path file : files) {
                String test = file.getFileName().toString().replace(".java", "");
                due.yes("the table has " + test, readme.contains("\n| `" + test + "` |"));
            }
        }
    }
}
