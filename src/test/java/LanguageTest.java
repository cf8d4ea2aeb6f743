import java.io.IOException;
import java.nio.file.Files;
import java.nio.file.Path;
import java.util.LinkedHashMap;
import java.util.LinkedHashSet;
import java.util.Map;
import java.util.Set;
import java.util.regex.Matcher;
import java.util.regex.Pattern;

// The rules of LANGUAGE.md that can be seen in the text of the program; what
// can be seen in the compiled class is in FaceTest.
public final class LanguageTest {
    private static final Path PROGRAM = Path.of("src/main/java/KnownWorlds.java");
    private static final int LONGEST_METHOD = 60;
    private static final int DEEPEST_CALLS = 6;

    private static int wrong = 0;

    private static void check(boolean right, String what) {
        if (!right) {
            wrong++;
            System.out.println(what);
        }
    }

    private static String withoutComments(String text) {
        return text.replaceAll("(?s)/\\*.*?\\*/", "").replaceAll("//[^\n]*", "");
    }

    /** The text from the bracket at a place to the one that closes it. */
    private static String inBrackets(String text, int from) {
        int depth = 0;
        for (int at = from; at < text.length(); at++) {
            char c = text.charAt(at);
            depth += c == '(' || c == '{' ? 1 : c == ')' || c == '}' ? -1 : 0;
            if (depth == 0) {
                return text.substring(from, at + 1);
            }
        }
        return text.substring(from);
    }

    /** The body of each method and of the constructor. */
    private static Map<String, String> bodies(String code) {
        Map<String, String> bodies = new LinkedHashMap<>();
        Matcher head = Pattern.compile("(?m)^    (?:public|private) (?:static )?(?:\\w+ )?(\\w+)\\([^)]*\\) \\{").matcher(code);
        while (head.find()) {
            String before = bodies.put(head.group(1), inBrackets(code, head.end() - 1));
            check(before == null, "rule 1: two methods bear the name " + head.group(1));
        }
        return bodies;
    }

    private static Set<String> calledBy(String body, Set<String> names) {
        Set<String> called = new LinkedHashSet<>();
        Matcher call = Pattern.compile("\\b(\\w+)\\(").matcher(body);
        while (call.find()) {
            if (names.contains(call.group(1))) {
                called.add(call.group(1));
            }
        }
        return called;
    }

    private static void checkWords(String code) {
        String[][] forbidden = {
            {"rule 1", "package|class(?! KnownWorlds )|interface|enum|record|protected"},
            {"rule 2", "float|double|String|Object|var"},
            {"rule 3", "import|Math|Integer|Long|System|Arrays|getClass|hashCode|equals|toString|java"},
            {"rule 4", "null"},
            {"rule 6", "throw|throws|try|catch|finally|synchronized|assert|instanceof|->|::"},
            {"rule 11", "Thread|Random|nanoTime|currentTimeMillis"},
        };
        for (String[] rule : forbidden) {
            Matcher word = Pattern.compile("(?<!\\w)(?:" + rule[1] + ")(?!\\w)").matcher(code);
            while (word.find()) {
                check(false, rule[0] + ": '" + word.group() + "' is used");
            }
        }
        check(!code.contains("\"") && !code.contains("[][]"), "rule 2: a text or an array of arrays");
    }

    private static void checkArrays(String code, Map<String, String> bodies) {
        bodies.forEach((name, body) -> check(!body.contains("new "), "rule 4: " + name + " makes something"));
        Matcher made = Pattern.compile("\\bnew \\w+[^;]*;").matcher(code);
        while (made.find()) {
            check(made.group().matches("new int\\[[A-Z_]+\\];"), "rule 4: " + made.group());
        }
        check(!Pattern.compile("(?m)^    .*static [^(\n]*\\[\\]").matcher(code).find(), "rule 5: a static array");
        check(!Pattern.compile("static \\{").matcher(code).find(), "rule 5: a static initialiser");
    }

    /** How deep calls go from a method, itself counted; -1 if they come back to it. */
    private static int depth(String name, Map<String, Set<String>> calls, Set<String> way) {
        if (!way.add(name)) {
            return -1;
        }
        int deepest = 0;
        for (String called : calls.get(name)) {
            int depth = depth(called, calls, way);
            if (depth < 0) {
                return -1;
            }
            deepest = Math.max(deepest, depth);
        }
        way.remove(name);
        return deepest + 1;
    }

    private static void checkCalls(Map<String, String> bodies) {
        Map<String, Set<String>> calls = new LinkedHashMap<>();
        bodies.forEach((name, body) -> calls.put(name, calledBy(body, bodies.keySet())));
        for (String name : calls.keySet()) {
            int depth = depth(name, calls, new LinkedHashSet<>());
            check(depth >= 0, "rule 8: " + name + " comes back to itself or to another");
            check(depth <= DEEPEST_CALLS, "rule 10: calls from " + name + " go " + depth + " deep");
        }
        bodies.forEach((name, body) -> checkNoCallInArguments(name, body, bodies.keySet()));
    }

    private static void checkNoCallInArguments(String name, String body, Set<String> names) {
        Matcher call = Pattern.compile("\\b(\\w+)\\(").matcher(body);
        while (call.find()) {
            if (names.contains(call.group(1))) {
                String arguments = inBrackets(body, call.end() - 1);
                check(calledBy(arguments, names).isEmpty(), "rule 10: in " + name + " a call stands in " + call.group(1) + arguments);
            }
        }
    }

    private static void checkLengths(Map<String, String> bodies) {
        bodies.forEach((name, body) ->
            check(body.split("\n").length <= LONGEST_METHOD, "rule 10: " + name + " is long"));
    }

    // Counters against a bound are all written as for; while needs a look by eye.
    private static void checkLoops(String code) {
        check(!Pattern.compile("\\b(while|do)\\b").matcher(code).find(), "rule 8: a loop without a counter in its head");
        Matcher loop = Pattern.compile("\\bfor \\(([^;]*);([^;]*);").matcher(code);
        while (loop.find()) {
            check(loop.group(2).matches(" \\w+ < [^&|]*"), "rule 8: a loop with no plain bound: " + loop.group());
        }
    }

    public static void main(String[] args) throws IOException {
        String code = withoutComments(Files.readString(PROGRAM));
        Map<String, String> bodies = bodies(code);
        check(bodies.size() > 17, "the methods were not found: " + bodies.keySet());
        checkWords(code);
        checkArrays(code, bodies);
        checkCalls(bodies);
        checkLengths(bodies);
        checkLoops(code);
        System.out.println(wrong == 0 ? "the language is as due" : wrong + " things are not as due");
        if (wrong != 0) {
            System.exit(1);
        }
    }
}
