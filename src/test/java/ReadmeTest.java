import java.io.IOException;
import java.lang.reflect.Method;
import java.lang.reflect.Modifier;
import java.nio.file.Files;
import java.nio.file.Path;
import java.util.regex.Matcher;
import java.util.regex.Pattern;
import java.util.stream.Stream;

/** README.md: each example answers what stands behind it, and every call of the face is named with its numbers. */
public final class ReadmeTest {
    private static final Pattern BLOCK = Pattern.compile("```java\n(.*?)```", Pattern.DOTALL);
    private static final Pattern TOLD = Pattern.compile("tell\\(x, \"([^\"]*)\"\\);\\s*// (-?\\d+)\\b.*");
    private static final Pattern ASKED = Pattern.compile("x\\.(\\w+)\\(([-\\d, ]*)\\);\\s*// (-?\\d+)\\b.*");

    public static void main(String[] args) throws IOException {
        String readme = Files.readString(Path.of("README.md"));
        examples(readme);
        calls(readme);
        Check.finish();
    }

    private static void examples(String readme) {
        Run run = null;
        Matcher blocks = BLOCK.matcher(readme);
        int rows = 0;
        while (blocks.find()) {
            for (String line : blocks.group(1).split("\n")) {
                if (line.equals("JointMoments x = new JointMoments();")) {
                    run = new Run();
                } else if (run != null) {
                    row(run, line);
                    rows++;
                }
            }
        }
        Check.that("README.md has examples", rows > 0);
    }

    private static void row(Run run, String line) {
        Matcher told = TOLD.matcher(line);
        Matcher asked = ASKED.matcher(line);
        if (told.matches()) {
            run.feed(told.group(1));
            Check.due("README.md: " + line, run.ask("text"), Integer.parseInt(told.group(2)));
        } else if (asked.matches()) {
            int[] numbers = Stream.of(asked.group(2).split(", *")).filter(n -> !n.isEmpty())
                .mapToInt(Integer::parseInt).toArray();
            Check.due("README.md: " + line, run.ask(asked.group(1), numbers), Integer.parseInt(asked.group(3)));
        } else {
            Check.that("README.md tells the answer of: " + line, false);
        }
    }

    private static void calls(String readme) {
        for (Method m : JointMoments.class.getDeclaredMethods()) {
            if (Modifier.isPublic(m.getModifiers())) {
                int numbers = m.getParameterCount();
                String list = numbers == 0 ? "" : "\\w+(, \\w+){" + (numbers - 1) + "}";
                Pattern named = Pattern.compile("`" + m.getName() + "\\(" + list + "\\)`");
                Check.that("README.md names " + m.getName() + " with its numbers", named.matcher(readme).find());
            }
        }
    }
}
