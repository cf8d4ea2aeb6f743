import java.io.IOException;
import java.nio.file.Files;
import java.nio.file.Path;
import java.util.Arrays;
import java.util.LinkedHashSet;
import java.util.Set;
import java.util.regex.Matcher;
import java.util.regex.Pattern;

// The example of README.md: each call of the public face stands in it, and
// each one answers what is told behind it.
public final class ReadmeTest {
    private static final Path README = Path.of("README.md");
    private static final String BEGIN = "```java\nKnownWorlds x = new KnownWorlds();\n";
    private static final Pattern CALL = Pattern.compile("x\\.(\\w+)\\(([-0-9, ]*)\\);(?: +// (-?\\w+): .*)?");
    private static final Set<String> FACE = Set.of("restart", "actual", "token", "drop", "say", "learn", "turn",
        "worlds", "facts", "classes", "together", "holds", "where", "apart", "kinds", "needed");

    private static String example() throws IOException {
        String text = Files.readString(README);
        int begin = text.indexOf(BEGIN);
        int end = text.indexOf("```\n", begin + BEGIN.length());
        return begin < 0 || end < 0 ? "" : text.substring(begin + BEGIN.length(), end);
    }

    private static int[] numbers(String arguments) {
        return arguments.isEmpty() ? new int[0]
            : Arrays.stream(arguments.split(", ")).mapToInt(Integer::parseInt).toArray();
    }

    private static void check(Run x, Matcher call) {
        String name = call.group(1);
        String answer = call.group(3);
        int[] n = numbers(call.group(2));
        if (answer != null) {
            x.due(Integer.decode(answer), name, n);
        } else if (name.equals("restart")) {
            x.restart();
        } else {
            Run.wrong("no answer is told: " + call.group());
        }
    }

    public static void main(String[] args) throws IOException {
        Run.sentence("the example of README.md");
        Run x = new Run();
        Set<String> seen = new LinkedHashSet<>();
        for (String line : example().split("\n")) {
            Matcher call = CALL.matcher(line);
            if (call.matches()) {
                seen.add(call.group(1));
                check(x, call);
            } else {
                Run.wrong("no call: " + line);
            }
        }
        if (!seen.equals(FACE)) {
            Run.wrong("the calls are " + seen);
        }
        Run.end();
    }
}
