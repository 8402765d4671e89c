import java.io.IOException;
import java.lang.reflect.Method;
import java.lang.reflect.Modifier;
import java.nio.file.Files;
import java.nio.file.Path;
import java.util.Arrays;
import java.util.regex.Matcher;
import java.util.regex.Pattern;

/** The example of README.md: each call answers the number that stands behind it. */
final class ReadmeTest {
    private static final Pattern LINE = Pattern.compile("cake\\.(\\w+)\\(([^)]*)\\); *// (-?\\d+)(:.*)?");

    public static void main(String[] args) throws IOException {
        CakeMarks cake = new CakeMarks();
        int lines = 0;
        for (String line : Files.readAllLines(Path.of("README.md"))) {
            Matcher m = LINE.matcher(line);
            if (m.matches()) {
                lines++;
                Check.due(line, Ask.of(cake, m.group(1), numbers(m.group(2))), Integer.parseInt(m.group(3)));
            } else {
                Check.that("an answer stands behind " + line, !line.startsWith("cake."));
            }
        }
        Check.that("the example is found", lines > 20);
        everyMethodIsTold(Files.readString(Path.of("README.md")));
        Check.finish();
    }

    private static int[] numbers(String arguments) {
        return Arrays.stream(arguments.split(", *")).filter(word -> !word.isEmpty())
                .mapToInt(word -> word.startsWith("'") ? word.charAt(1) : Integer.parseInt(word)).toArray();
    }

    private static void everyMethodIsTold(String readme) {
        for (Method method : CakeMarks.class.getDeclaredMethods()) {
            boolean face = Modifier.isPublic(method.getModifiers());
            Check.that("a row tells " + method, !face || readme.contains("| `" + method.getName() + "("));
        }
        Check.that("the error codes are told", readme.contains("| `INVALID_ARGUMENT` | -1 |")
                && readme.contains("| `ILLEGAL_STATE` | -2 |") && readme.contains("| `CAPACITY_EXCEEDED` | -3 |")
                && readme.contains("| `NONE` | -9 |"));
    }
}
