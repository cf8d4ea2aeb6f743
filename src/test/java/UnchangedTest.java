import java.util.ArrayList;
import java.util.Arrays;
import java.util.LinkedHashMap;
import java.util.LinkedHashSet;
import java.util.List;
import java.util.Map;
import java.util.Set;
import java.util.function.Supplier;

// A refused call and a question change nothing that later calls show. In each
// of some states each such call is made, and what is shown then is compared
// with what is shown without it. To show all takes more calls than an object
// is used for, so each part is shown by an object of its own.
public final class UnchangedTest {
    private static final int PARTS = 7;
    private static final List<String> QUESTIONS = List.of("worlds", "facts", "classes", "together", "holds", "where",
        "apart", "kinds", "needed");

    private final Set<String> refusals = new LinkedHashSet<>();

    private static Map<String, Supplier<Run>> states() {
        Map<String, Supplier<Run>> states = new LinkedHashMap<>();
        states.put("a new object", Run::new);
        states.put("one formula that does not hold", () -> new Run().put("p0 p1 or"));
        states.put("one formula of 24 tokens", () -> new Run().actual(9).put(Run.ofSize(1, 24)));
        states.put("six formulas", () -> new Run().put("p0").put("p1 knows0").put("p2 not").put("p3").put("p0 p1 iff").put("p2"));
        states.put("six formulas of 24 tokens", UnchangedTest::full);
        states.put("fewer worlds", UnchangedTest::worn);
        states.put("fewer worlds and formulas", () -> worn().put("p1 knows2").put("p0 p2 p1 knows1 after and").put("p3 p0 knows0 and"));
        states.put("facts that hang together", () -> new Run().actual(15).with("p0 p1 p2 and p3 and iff", "say").put("p3 knows0"));
        states.put("worlds far apart", () -> new Run().with("p1", "learn", 0).with("p2", "learn", 0).with("p0 p1 iff", "learn", 1)
            .with("p0 p1 and p2 iff", "learn", 1).with("p2 p3 and p0 and", "turn", 3).with("p3 p1 and", "turn", 0)
            .with("p3 p0 and", "turn", 1).with("p3 p0 and", "turn", 2).put("p0"));
        states.put("one world", () -> new Run().actual(6).with(Run.exactly(6), "say").put("p2 knows1").put("p0"));
        return states;
    }

    private static Run full() {
        Run x = new Run().actual(3);
        for (int i = 0; i < 6; i++) {
            x.put(Run.ofSize(i % 4, 24));
        }
        return x;
    }

    // Worlds 0, 5, 10 and 15 are gone, each agent knows something, and facts
    // were turned.
    private static Run worn() {
        return new Run().actual(7).with("p0", "learn", 0).with("p0 p1 iff", "learn", 1).with("p1 p2 or", "learn", 2)
            .with("p3", "learn", 2).with("p0 p2 iff p1 p3 iff and not", "say").with("p1 knows2 p0 or", "turn", 2)
            .with("p3 p1 and", "turn", 3).actual(13);
    }

    /** Numbers at the edges of those allowed, inside and outside, and far off. */
    private static int[] around(int least, int greatest) {
        return new int[] {least, greatest, least - 1, greatest + 1, greatest + 32, -65536, Integer.MIN_VALUE, Integer.MAX_VALUE};
    }

    private static List<Object[]> calls() {
        List<Object[]> calls = new ArrayList<>();
        for (String name : List.of("drop", "say", "worlds", "where", "kinds")) {
            add(calls, name);
        }
        addEach(calls, around(0, 15), "actual", "facts", "holds");
        addEach(calls, new int[] {1, 5, 7, 10, 13, 14}, "actual", "facts", "holds");
        addEach(calls, around(0, 2), "learn", "classes");
        addEach(calls, around(0, 3), "turn");
        addPairs(calls, "apart", around(0, 15), new int[] {0, 4, 7, 13});
        addPairs(calls, "apart", new int[] {0, 4, 7, 13}, around(0, 15));
        addPairs(calls, "needed", around(0, 2), around(0, 3));
        addPairs(calls, "token", around(0, 9), new int[] {-1, 0, 1, 2});
        addPairs(calls, "token", new int[] {0}, around(0, 3));
        addPairs(calls, "token", new int[] {5}, around(0, 2));
        addPairs(calls, "token", new int[] {6, 7, 8}, around(1, 7));
        addPairs(calls, "token", new int[] {1, 2, 3, 4}, new int[] {0, Integer.MIN_VALUE});
        for (int w : new int[] {0, 4, 7, 16, -1}) {
            for (int a : around(0, 2)) {
                add(calls, "together", a, w, 13);
                add(calls, "together", a, 4, w);
            }
        }
        return calls;
    }

    private static void add(List<Object[]> calls, String name, int... n) {
        calls.add(new Object[] {name, n});
    }

    private static void addEach(List<Object[]> calls, int[] numbers, String... names) {
        for (String name : names) {
            for (int n : numbers) {
                add(calls, name, n);
            }
        }
    }

    private static void addPairs(List<Object[]> calls, String name, int[] first, int[] second) {
        for (int n : first) {
            for (int m : second) {
                add(calls, name, n, m);
            }
        }
    }

    /** All that calls can show, with the call made ahead of it if there is one. */
    private static String shown(Supplier<Run> state, Object[] call) {
        StringBuilder shown = new StringBuilder();
        for (int part = 0; part < PARTS; part++) {
            Run x = state.get();
            if (call != null) {
                x.call((String) call[0], (int[]) call[1]);
            }
            showPart(part, x, shown.append(" | "));
        }
        return shown.toString();
    }

    private static void showPart(int part, Run x, StringBuilder shown) {
        switch (part) {
            case 0: showCounts(x, shown); break;
            case 1: case 2: case 3: showClasses(x, part - 1, shown); break;
            case 4: showStack(x, shown); break;
            case 5: x.restart(); showStack(x, shown); break;
            default: showWhatFollows(x, shown); break;
        }
    }

    private static void show(Run x, StringBuilder shown, String name, int... n) {
        shown.append(' ').append(x.call(name, n));
    }

    private static void showCounts(Run x, StringBuilder shown) {
        show(x, shown, "worlds");
        show(x, shown, "kinds");
        for (int a = 0; a < 3; a++) {
            show(x, shown, "classes", a);
            for (int p = 0; p < 4; p++) {
                show(x, shown, "needed", a, p);
            }
        }
        for (int w = 0; w < 16; w++) {
            show(x, shown, "facts", w);
            show(x, shown, "holds", w);
            show(x, shown, "apart", w, 13);
            show(x, shown, "apart", w, w ^ 5);
        }
        for (int w = 0; w < 16; w++) {
            show(x, shown, "actual", w);
        }
    }

    private static void showClasses(Run x, int a, StringBuilder shown) {
        for (int w = 0; w < 16; w++) {
            for (int v = 0; v < 16; v++) {
                show(x, shown, "together", a, w, v);
            }
        }
    }

    // How many NOTs a formula still takes shows how many tokens it has.
    private static void showStack(Run x, StringBuilder shown) {
        for (int formula = 0; formula <= 6; formula++) {
            show(x, shown, "where");
            int taken = 0;
            while (taken < 24 && x.call("token", 1, 0) > 0) {
                taken++;
            }
            shown.append(" +").append(taken);
            show(x, shown, "drop");
        }
    }

    private static void showWhatFollows(Run x, StringBuilder shown) {
        show(x, shown, "say");
        for (int a = 0; a < 3; a++) {
            show(x, shown, "learn", a);
            show(x, shown, "turn", a + 1);
        }
        show(x, shown, "token", 0, 2);
        show(x, shown, "token", 4, 0);
        show(x, shown, "where");
        show(x, shown, "say");
        show(x, shown, "kinds");
        for (int w = 0; w < 16; w++) {
            show(x, shown, "facts", w);
        }
    }

    private void testState(String name, Supplier<Run> state) {
        String unchanged = shown(state, null);
        Run.sentence("A refused call changes nothing.");
        for (Object[] call : calls()) {
            int answer = state.get().call((String) call[0], (int[]) call[1]);
            if (answer < 0) {
                refusals.add(call[0] + " " + answer);
                dueUnchanged(name, state, call, unchanged);
            }
        }
        Run.sentence("questions; they change nothing");
        for (Object[] call : calls()) {
            if (QUESTIONS.contains(call[0])) {
                dueUnchanged(name, state, call, unchanged);
            }
        }
    }

    private static void dueUnchanged(String name, Supplier<Run> state, Object[] call, String unchanged) {
        Run.dueSame(name + ", then " + call[0] + Arrays.toString((int[]) call[1]), shown(state, call), unchanged);
    }

    /** A refusal that no state came to would not have been tested. */
    private void testThatAllWereRefused() {
        Run.sentence("all refusals that the document names");
        Set<String> due = new LinkedHashSet<>(List.of("actual -1", "token -1", "token -2", "token -3", "token -4", "drop -1",
            "say -1", "say -2", "learn -1", "learn -2", "turn -1", "turn -2", "facts -1", "classes -1", "together -1",
            "holds -1", "where -1", "apart -1", "apart -2", "needed -1", "needed -2"));
        due.removeAll(refusals);
        Run.dueSame("refusals that were not seen", due.toString(), "[]");
    }

    public static void main(String[] args) {
        UnchangedTest test = new UnchangedTest();
        states().forEach(test::testState);
        test.testThatAllWereRefused();
        Run.end();
    }
}
