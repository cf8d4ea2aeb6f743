import java.util.LinkedHashSet;
import java.util.Set;

/**
 * A new object and the calls that were made on it. Each test is made under a
 * sentence of the document; a wrong answer is told with that sentence and with
 * all the calls that led to it.
 */
final class Run {
    // What later calls answer is free, so a test that went on would be no test.
    private static final int MOST_CALLS = 512;

    // The worlds in which a fact is so, in the beginning.
    static final int P0 = 0xAAAA;
    static final int P1 = 0xCCCC;
    static final int P2 = 0xF0F0;
    static final int P3 = 0xFF00;
    static final int[] FACT_SETS = {P0, P1, P2, P3};
    static final int EVERY = 0xFFFF;

    private static String sentence = "";
    private static int answersOfSentence = 1;
    private static int wrong = 0;

    private final KnownWorlds x = new KnownWorlds();
    private final StringBuilder told = new StringBuilder("new");
    private int calls = 0;

    /** Begins the tests of a sentence. */
    static void sentence(String words) {
        if (answersOfSentence == 0) {
            wrong("nothing was tested");
        }
        sentence = words;
        answersOfSentence = 0;
    }

    static void wrong(String what) {
        wrong++;
        System.out.println("\"" + sentence + "\": " + what);
    }

    static void dueSame(String what, String got, String want) {
        answersOfSentence++;
        if (!got.equals(want)) {
            wrong(what + "\n  shows  " + got + "\n  due is " + want);
        }
    }

    static void end() {
        sentence("the end");
        System.out.println(wrong == 0 ? "all answers are as due" : wrong + " answers are not as due");
        if (wrong != 0) {
            System.exit(1);
        }
    }

    /** Numbers below and above those allowed: the next ones, and far ones that a shift or a product would wrap. */
    static Set<Integer> outside(int least, int greatest) {
        Set<Integer> numbers = new LinkedHashSet<>();
        numbers.add(least - 1);
        numbers.add(greatest + 1);
        for (int bit = 0; bit < 32; bit++) {
            for (int near = -1; near <= 1; near++) {
                numbers.add((1 << bit) + near);
                numbers.add(-(1 << bit) + near);
            }
            numbers.add((1 << bit) + least);
            numbers.add((1 << bit) + greatest);
        }
        numbers.removeIf(n -> n >= least && n <= greatest);
        return numbers;
    }

    /** The formula that holds in one world alone, in the beginning. */
    static String exactly(int w) {
        String formula = "";
        for (int p = 0; p < 4; p++) {
            formula += " p" + p + ((w >> p & 1) == 1 ? "" : " not") + (p == 0 ? "" : " and");
        }
        return formula.trim();
    }

    /** A formula with just so many tokens: fact p under NOTs. */
    static String ofSize(int p, int size) {
        return "p" + p + " not".repeat(size - 1);
    }

    /** The worlds in which that formula holds, in the beginning. */
    static int whereOfSize(int p, int size) {
        return size % 2 == 1 ? FACT_SETS[p] : EVERY & ~FACT_SETS[p];
    }

    int call(String name, int... n) {
        calls++;
        if (calls > MOST_CALLS) {
            wrong("the test makes more than 512 calls on an object");
        }
        int answer = answer(name, n);
        told.append(", ").append(name).append(java.util.Arrays.toString(n)).append(" = ").append(answer);
        return answer;
    }

    private int answer(String name, int... n) {
        switch (name) {
            case "restart": x.restart(); return 0;
            case "actual": return x.actual(n[0]);
            case "token": return x.token(n[0], n[1]);
            case "drop": return x.drop();
            case "say": return x.say();
            case "learn": return x.learn(n[0]);
            case "turn": return x.turn(n[0]);
            case "worlds": return x.worlds();
            case "facts": return x.facts(n[0]);
            case "classes": return x.classes(n[0]);
            case "together": return x.together(n[0], n[1], n[2]);
            case "holds": return x.holds(n[0]);
            case "where": return x.where();
            case "apart": return x.apart(n[0], n[1]);
            case "kinds": return x.kinds();
            case "needed": return x.needed(n[0], n[1]);
            default: throw new IllegalArgumentException(name);
        }
    }

    /** Makes a call and looks at its answer. */
    Run due(int want, String name, int... n) {
        answersOfSentence++;
        int got = call(name, n);
        if (got != want) {
            wrong("due is " + want + " at the end of: " + told);
        }
        return this;
    }

    Run restart() {
        call("restart");
        return this;
    }

    /** Puts a formula written in words, each token's argument as its last digit. */
    Run put(String formula) {
        for (String word : formula.trim().split("\\s+")) {
            int digit = word.charAt(word.length() - 1) - '0';
            boolean hasDigit = digit >= 0 && digit <= 9;
            if (call("token", kind(word), hasDigit ? digit : 0) < 1) {
                wrong("'" + word + "' of '" + formula + "' was refused: " + told);
            }
        }
        return this;
    }

    private static int kind(String word) {
        switch (word.replaceAll("[0-9]", "")) {
            case "p": return 0;
            case "not": return 1;
            case "and": return 2;
            case "or": return 3;
            case "iff": return 4;
            case "knows": return 5;
            case "all": return 6;
            case "common": return 7;
            case "together": return 8;
            case "after": return 9;
            default: throw new IllegalArgumentException(word);
        }
    }

    /** Puts a formula, looks at the worlds in which it holds, and takes it off. */
    Run dueWhere(int want, String formula) {
        put(formula).due(want, "where");
        call("drop");
        return this;
    }

    /** Puts a formula, makes a call that looks at the top, and takes it off. */
    Run with(String formula, String name, int... n) {
        put(formula);
        if (call(name, n) < 0) {
            wrong(name + " was refused: " + told);
        }
        call("drop");
        return this;
    }

    Run actual(int w) {
        if (call("actual", w) < 0) {
            wrong("actual was refused: " + told);
        }
        return this;
    }
}
