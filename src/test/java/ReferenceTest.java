import java.util.ArrayList;
import java.util.List;

// Runs of calls on KnownWorlds and on a second program that follows the
// document's words with trees, recursion and copies. The calls come from a
// fixed row of numbers, so each time the runs are the same.
public final class ReferenceTest {
    private static final int RUNS = 1000;
    private static final int CALLS = 512;
    private static final String[] NAMES = {"restart", "actual", "token", "drop", "say", "learn", "turn",
        "worlds", "facts", "classes", "together", "holds", "where", "apart", "kinds", "needed"};
    private static final int TOKEN = 2;
    // How often each call comes, of 100 or so; one row for each style of run.
    private static final int[][] WEIGHTS = {
        {1, 3, 55, 6, 4, 6, 4, 1, 2, 1, 3, 2, 8, 5, 1, 4},
        {1, 2, 45, 4, 1, 15, 8, 1, 1, 1, 4, 1, 3, 12, 2, 3},
        {3, 8, 40, 5, 8, 3, 3, 1, 4, 2, 3, 3, 5, 4, 1, 10},
        {1, 1, 75, 2, 1, 3, 1, 0, 0, 0, 0, 1, 15, 0, 0, 0},
        {0, 2, 60, 5, 0, 2, 1, 0, 0, 1, 0, 2, 20, 2, 1, 1},
    };

    private long state = 20261115L;

    private int next(int bound) {
        state = state * 6364136223846793005L + 1442695040888963407L;
        return (int) ((state >>> 33) % bound);
    }

    private int argument(int bound) {
        return next(40) == 0 ? next(2 * bound + 3) - bound - 1 : next(bound);
    }

    private int kindOfToken(int formulas) {
        int draw = next(100);
        if (draw < 3) {
            return next(14) - 2;
        }
        if (formulas == 0 || draw < 35) {
            return 0;
        }
        if (formulas == 1 || draw < 65) {
            int[] one = {1, 5, 5, 6, 7, 8};
            return one[next(one.length)];
        }
        int[] two = {2, 3, 4, 4, 9, 9, 9};
        return two[next(two.length)];
    }

    private int call(int[] weights) {
        int sum = 0;
        for (int weight : weights) {
            sum += weight;
        }
        int draw = next(sum);
        int call = 0;
        while (draw >= weights[call]) {
            draw -= weights[call];
            call++;
        }
        return call;
    }

    private int[] arguments(int call, Reference reference) {
        switch (NAMES[call]) {
            case "token":
                int kind = kindOfToken(reference.stack.size());
                int bound = kind == 0 ? 4 : kind == 5 ? 3 : 8;
                return new int[] {kind, argument(bound)};
            case "learn": case "classes":
                return new int[] {argument(3)};
            case "turn":
                return new int[] {argument(4)};
            case "together":
                return new int[] {argument(3), argument(16), argument(16)};
            case "apart":
                return new int[] {argument(16), argument(16)};
            case "needed":
                return new int[] {argument(3), argument(4)};
            case "actual": case "facts": case "holds":
                return new int[] {argument(16)};
            default:
                return new int[0];
        }
    }

    private static int answer(KnownWorlds x, int call, int[] n) {
        switch (NAMES[call]) {
            case "restart": x.restart(); return 0;
            case "actual": return x.actual(n[0]);
            case "token": return x.token(n[0], n[1]);
            case "drop": return x.drop();
            case "say": return x.say();
            case "learn": return x.learn(n[0]);
            case "turn": return x.turn(n[0]);
            case "worlds": return x.worlds();
            case "facts": return x.facts(n[0]);
            case "classes": return x.classes(n[0]);
            case "together": return x.together(n[0], n[1], n[2]);
            case "holds": return x.holds(n[0]);
            case "where": return x.where();
            case "apart": return x.apart(n[0], n[1]);
            case "kinds": return x.kinds();
            default: return x.needed(n[0], n[1]);
        }
    }

    private static int answer(Reference x, int call, int[] n) {
        switch (NAMES[call]) {
            case "restart": x.model = new Model(); return 0;
            case "actual": return x.actual(n[0]);
            case "token": return x.token(n[0], n[1]);
            case "drop": return x.drop();
            case "say": return x.say();
            case "learn": return x.learn(n[0]);
            case "turn": return x.turn(n[0]);
            case "worlds": return x.model.count();
            case "facts": return x.facts(n[0]);
            case "classes": return x.classes(n[0]);
            case "together": return x.together(n[0], n[1], n[2]);
            case "holds": return x.holds(n[0]);
            case "where": return x.where();
            case "apart": return x.apart(n[0], n[1]);
            case "kinds": return x.kinds();
            default: return x.needed(n[0], n[1]);
        }
    }

    /** Answers 1 if the run went wrong, else 0. */
    private int run(int number, boolean show) {
        KnownWorlds x = new KnownWorlds();
        Reference reference = new Reference();
        StringBuilder told = new StringBuilder();
        int[] weights = WEIGHTS[number % WEIGHTS.length];
        for (int i = 0; i < CALLS; i++) {
            int call = call(weights);
            int[] n = arguments(call, reference);
            int want = answer(reference, call, n);
            int got = answer(x, call, n);
            told.append(NAMES[call]).append(java.util.Arrays.toString(n)).append(" = ").append(got).append('\n');
            if (got != want) {
                System.out.println("run " + number + ", call " + i + ": " + NAMES[call]
                    + java.util.Arrays.toString(n) + " answered " + got + ", due is " + want);
                if (show) {
                    System.out.print(told);
                }
                return 1;
            }
            tally(call, got);
        }
        return 0;
    }

    private final int[][] tallies = new int[NAMES.length][24];

    private void tally(int call, int got) {
        tallies[call][Math.min(got + 4, 23)]++;
    }

    /** Answers that no run came to would not have been tested. */
    private int unseen(String name, int... answers) {
        int missing = 0;
        for (int i = 0; i < NAMES.length; i++) {
            for (int wanted : answers) {
                if (NAMES[i].equals(name) && tallies[i][wanted + 4] == 0) {
                    System.out.println("no run had " + name + " answer " + wanted);
                    missing++;
                }
            }
        }
        return missing;
    }

    // No call may throw, whatever the arguments, even after the 512th call.
    private int runWild() {
        int[] odd = {Integer.MIN_VALUE, Integer.MAX_VALUE, -1, 0, 1, 2, 3, 4, 5, 6, 7, 8, 9, 10, 15, 16, 17, 31, 32, 33, 63, 64};
        KnownWorlds x = new KnownWorlds();
        for (int i = 0; i < 100000; i++) {
            int call = next(3) == 0 ? TOKEN : next(NAMES.length);
            int[] n = {odd[next(odd.length)], odd[next(odd.length)], odd[next(odd.length)]};
            try {
                answer(x, call, n);
            } catch (RuntimeException thrown) {
                System.out.println(NAMES[call] + java.util.Arrays.toString(n) + " threw " + thrown);
                return 1;
            }
        }
        return 0;
    }

    public static void main(String[] args) {
        ReferenceTest test = new ReferenceTest();
        int wrong = 0;
        for (int number = 0; number < RUNS && wrong < 5; number++) {
            wrong += test.run(number, wrong == 0);
        }
        if (wrong == 0) {
            wrong += test.unseen("actual", -1, 0, 15);
            wrong += test.unseen("token", -4, -3, -2, -1, 1, 2, 3, 4, 5, 6);
            wrong += test.unseen("drop", -1, 0, 5);
            wrong += test.unseen("say", -2, -1, 1, 2, 7, 16);
            wrong += test.unseen("learn", -2, -1, 1, 2, 3, 5, 7);
            wrong += test.unseen("turn", -2, -1, 0, 1, 16);
            wrong += test.unseen("together", -1, 0, 1);
            wrong += test.unseen("holds", -1, 0, 1);
            wrong += test.unseen("apart", -2, -1, 0, 1, 2, 3);
            wrong += test.unseen("kinds", 1, 2, 3, 4, 5, 6, 7, 16);
            wrong += test.unseen("needed", -2, -1, 0, 1, 2, 3);
        }
        wrong += test.runWild();
        System.out.println(wrong == 0 ? "all answers are as due" : wrong + " things are not as due");
        if (wrong != 0) {
            System.exit(1);
        }
    }

    private static final class Formula {
        final int kind;
        final int a;
        final Formula f;
        final Formula g;

        Formula(int kind, int a, Formula f, Formula g) {
            this.kind = kind;
            this.a = a;
            this.f = f;
            this.g = g;
        }

        int size() {
            return 1 + (f == null ? 0 : f.size()) + (g == null ? 0 : g.size());
        }
    }

    private static final class Model {
        final boolean[] there = new boolean[16];
        final boolean[][] so = new boolean[4][16];
        final boolean[][][] same = new boolean[3][16][16];
        int actual = 0;

        Model() {
            for (int w = 0; w < 16; w++) {
                there[w] = true;
                for (int p = 0; p < 4; p++) {
                    so[p][w] = Integer.toBinaryString(16 + w).charAt(4 - p) == '1';
                }
                for (int v = 0; v < 16; v++) {
                    for (int a = 0; a < 3; a++) {
                        same[a][w][v] = true;
                    }
                }
            }
        }

        /** This model without the worlds in which something does not hold. */
        Model after(boolean[] holds) {
            Model left = new Model();
            left.actual = actual;
            for (int w = 0; w < 16; w++) {
                left.there[w] = there[w] && holds[w];
                for (int p = 0; p < 4; p++) {
                    left.so[p][w] = so[p][w];
                }
                for (int v = 0; v < 16; v++) {
                    for (int a = 0; a < 3; a++) {
                        left.same[a][w][v] = same[a][w][v];
                    }
                }
            }
            return left;
        }

        int count() {
            int count = 0;
            for (boolean here : there) {
                count += here ? 1 : 0;
            }
            return count;
        }

        boolean has(int w) {
            return w >= 0 && w <= 15 && there[w];
        }

        List<Integer> classOf(int a, int w) {
            List<Integer> members = new ArrayList<>();
            for (int v = 0; v < 16; v++) {
                if (there[v] && same[a][w][v]) {
                    members.add(v);
                }
            }
            return members;
        }

        /** Where the formula holds; of use for worlds that are there alone. */
        boolean[] where(Formula formula) {
            boolean[] f = formula.f == null ? null : where(formula.f);
            Model forG = formula.kind == 9 ? after(f) : this;
            boolean[] g = formula.g == null ? null : forG.where(formula.g);
            boolean[] holds = new boolean[16];
            for (int w = 0; w < 16; w++) {
                holds[w] = there[w] && holds(formula.kind, formula.a, f, g, w);
            }
            return holds;
        }

        boolean holds(int kind, int a, boolean[] f, boolean[] g, int w) {
            switch (kind) {
                case 0: return so[a][w];
                case 1: return !f[w];
                case 2: return f[w] && g[w];
                case 3: return f[w] || g[w];
                case 4: return f[w] == g[w];
                case 5: return knows(a, f, w);
                case 6: return allKnow(a, f, w);
                case 7: return common(a, f, w, new boolean[16]);
                case 8: return together(a, f, w);
                default: return !f[w] || g[w];
            }
        }

        boolean knows(int a, boolean[] f, int w) {
            for (int v : classOf(a, w)) {
                if (!f[v]) {
                    return false;
                }
            }
            return true;
        }

        boolean allKnow(int group, boolean[] f, int w) {
            for (int a = 0; a < 3; a++) {
                if ((group & 1 << a) != 0 && !knows(a, f, w)) {
                    return false;
                }
            }
            return true;
        }

        boolean common(int group, boolean[] f, int w, boolean[] visited) {
            if (visited[w]) {
                return true;
            }
            visited[w] = true;
            if (!f[w]) {
                return false;
            }
            for (int a = 0; a < 3; a++) {
                if ((group & 1 << a) != 0) {
                    for (int v : classOf(a, w)) {
                        if (!common(group, f, v, visited)) {
                            return false;
                        }
                    }
                }
            }
            return true;
        }

        boolean together(int group, boolean[] f, int w) {
            for (int v = 0; v < 16; v++) {
                boolean inAll = there[v];
                for (int a = 0; a < 3; a++) {
                    inAll = inAll && ((group & 1 << a) == 0 || same[a][w][v]);
                }
                if (inAll && !f[v]) {
                    return false;
                }
            }
            return true;
        }

        int factsOf(int w) {
            return (so[0][w] ? 1 : 0) + (so[1][w] ? 2 : 0) + (so[2][w] ? 4 : 0) + (so[3][w] ? 8 : 0);
        }

        /** For each two worlds how far apart they are, -2 for alike. */
        int[][] distances() {
            int[][] distance = new int[16][16];
            for (int w = 0; w < 16; w++) {
                for (int v = 0; v < 16; v++) {
                    distance[w][v] = factsOf(w) != factsOf(v) ? 0 : -2;
                }
            }
            boolean changed = true;
            for (int n = 1; changed; n++) {
                changed = false;
                for (int w = 0; w < 16; w++) {
                    for (int v = 0; v < 16; v++) {
                        if (there[w] && there[v] && distance[w][v] == -2 && areApart(w, v, n, distance)) {
                            distance[w][v] = n;
                            changed = true;
                        }
                    }
                }
            }
            return distance;
        }

        boolean areApart(int w, int v, int n, int[][] distance) {
            for (int a = 0; a < 3; a++) {
                if (oneIsFarFromAll(classOf(a, w), classOf(a, v), n, distance)
                        || oneIsFarFromAll(classOf(a, v), classOf(a, w), n, distance)) {
                    return true;
                }
            }
            return false;
        }

        static boolean oneIsFarFromAll(List<Integer> some, List<Integer> others, int n, int[][] distance) {
            for (int u : some) {
                boolean fromAll = true;
                for (int x : others) {
                    fromAll = fromAll && distance[u][x] >= 0 && distance[u][x] <= n - 1;
                }
                if (fromAll) {
                    return true;
                }
            }
            return false;
        }

        /** The most of the worlds from w on that can join the chosen ones. */
        int mostUnlike(int w, List<Integer> chosen, int[][] distance) {
            if (w == 16) {
                return 0;
            }
            boolean canJoin = there[w];
            for (int c : chosen) {
                canJoin = canJoin && distance[w][c] != -2;
            }
            if (!canJoin) {
                return mostUnlike(w + 1, chosen, distance);
            }
            List<Integer> more = new ArrayList<>(chosen);
            more.add(w);
            int with = 1 + mostUnlike(w + 1, more, distance);
            // A world that is alike to no later one costs nothing to choose.
            boolean costs = false;
            for (int v = w + 1; v < 16; v++) {
                costs = costs || there[v] && distance[w][v] == -2;
            }
            return costs ? Math.max(with, mostUnlike(w + 1, chosen, distance)) : with;
        }

        int needed(int a, int p) {
            if (knows(a, so[p], actual) || knows(a, negated(so[p]), actual)) {
                return 0;
            }
            int least = -2;
            for (int q = 0; q < 4; q++) {
                boolean[] said = so[q][actual] ? so[q] : negated(so[q]);
                Model left = after(said);
                if (q != p && left.count() < count()) {
                    int more = left.needed(a, p);
                    if (more >= 0 && (least == -2 || more + 1 < least)) {
                        least = more + 1;
                    }
                }
            }
            return least;
        }

        boolean[] negated(boolean[] holds) {
            boolean[] not = new boolean[16];
            for (int w = 0; w < 16; w++) {
                not[w] = !holds[w];
            }
            return not;
        }
    }

    private static final class Reference {
        Model model = new Model();
        final List<Formula> stack = new ArrayList<>();

        Formula top() {
            return stack.get(stack.size() - 1);
        }

        int actual(int w) {
            if (!model.has(w)) {
                return -1;
            }
            int was = model.actual;
            model.actual = w;
            return was;
        }

        int token(int kind, int a) {
            if (kind < 0 || kind > 9
                    || kind == 0 && (a < 0 || a > 3)
                    || kind == 5 && (a < 0 || a > 2)
                    || (kind == 6 || kind == 7 || kind == 8) && (a < 1 || a > 7)) {
                return -1;
            }
            int takes = kind == 0 ? 0 : kind == 1 || kind >= 5 && kind <= 8 ? 1 : 2;
            int n = stack.size();
            if (n < takes) {
                return -2;
            }
            if (takes == 0 && n == 6) {
                return -3;
            }
            Formula f = takes == 0 ? null : stack.get(n - takes);
            Formula g = takes == 2 ? stack.get(n - 1) : null;
            Formula made = new Formula(kind, a, f, g);
            if (made.size() > 24) {
                return -4;
            }
            for (int i = 0; i < takes; i++) {
                drop();
            }
            stack.add(made);
            return stack.size();
        }

        int drop() {
            if (stack.isEmpty()) {
                return -1;
            }
            stack.remove(stack.size() - 1);
            return stack.size();
        }

        int say() {
            if (stack.isEmpty()) {
                return -1;
            }
            boolean[] holds = model.where(top());
            if (!holds[model.actual]) {
                return -2;
            }
            model = model.after(holds);
            return model.count();
        }

        int learn(int a) {
            if (a < 0 || a > 2) {
                return -1;
            }
            if (stack.isEmpty()) {
                return -2;
            }
            boolean[] holds = model.where(top());
            for (int w = 0; w < 16; w++) {
                for (int v = 0; v < 16; v++) {
                    model.same[a][w][v] = model.same[a][w][v] && holds[w] == holds[v];
                }
            }
            return classes(a);
        }

        int turn(int p) {
            if (p < 0 || p > 3) {
                return -1;
            }
            if (stack.isEmpty()) {
                return -2;
            }
            boolean[] holds = model.where(top());
            int changed = 0;
            for (int w = 0; w < 16; w++) {
                if (model.there[w] && model.so[p][w] != holds[w]) {
                    model.so[p][w] = holds[w];
                    changed++;
                }
            }
            return changed;
        }

        int facts(int w) {
            return model.has(w) ? model.factsOf(w) : -1;
        }

        int classes(int a) {
            if (a < 0 || a > 2) {
                return -1;
            }
            List<List<Integer>> seen = new ArrayList<>();
            for (int w = 0; w < 16; w++) {
                if (model.there[w] && !seen.contains(model.classOf(a, w))) {
                    seen.add(model.classOf(a, w));
                }
            }
            return seen.size();
        }

        int together(int a, int w, int v) {
            if (a < 0 || a > 2 || !model.has(w) || !model.has(v)) {
                return -1;
            }
            return model.same[a][w][v] ? 1 : 0;
        }

        int holds(int w) {
            if (stack.isEmpty() || !model.has(w)) {
                return -1;
            }
            return model.where(top())[w] ? 1 : 0;
        }

        int where() {
            if (stack.isEmpty()) {
                return -1;
            }
            int number = 0;
            boolean[] holds = model.where(top());
            for (int w = 0; w < 16; w++) {
                number += holds[w] ? 1 << w : 0;
            }
            return number;
        }

        int apart(int w, int v) {
            return model.has(w) && model.has(v) ? model.distances()[w][v] : -1;
        }

        int kinds() {
            return model.mostUnlike(0, new ArrayList<>(), model.distances());
        }

        int needed(int a, int p) {
            return a < 0 || a > 2 || p < 0 || p > 3 ? -1 : model.needed(a, p);
        }
    }
}
