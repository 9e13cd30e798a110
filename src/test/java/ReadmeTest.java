import java.io.IOException;
import java.nio.file.Files;
import java.nio.file.Path;
import java.util.regex.Matcher;
import java.util.regex.Pattern;

/** Each call in README.md's Java examples answers the number that stands beside it. Runs in the project's root. */
public final class ReadmeTest {
    private static final String NEW_OBJECT = "AbsentMeansAbort x = new AbsentMeansAbort();";
    private static final Pattern CALL = Pattern.compile("x\\.(\\w+\\([^)]*\\)); +// (-?\\d+)(:.*)?");

    private final Checks check = new Checks();
    private AbsentMeansAbort x;
    private int examples = 0;

    public static void main(String[] args) throws IOException {
        ReadmeTest test = new ReadmeTest();
        test.follow(Path.of("README.md"));
        test.check.about("README.md");
        test.check.due("number of examples", test.examples, 2);
        test.check.finish();
    }

    private void follow(Path readme) throws IOException {
        boolean inside = false;
        int number = 0;
        for (String line : Files.readAllLines(readme)) {
            number++;
            check.about("README.md, line " + number);
            if (line.startsWith("```")) {
                inside = line.equals("```java");
            } else if (inside) {
                followLine(line);
            }
        }
    }

    private void followLine(String line) {
        if (line.equals(NEW_OBJECT)) {
            x = new AbsentMeansAbort();
            examples++;
            return;
        }
        Matcher call = CALL.matcher(line);
        if (call.matches()) {
            check.due(call.group(1), Calls.answer(x, call.group(1)), Integer.parseInt(call.group(2)));
        } else {
            check.due("a line of an example", line, "a call with its answer");
        }
    }
}
