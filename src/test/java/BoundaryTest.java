// The document again, sentence by sentence: each sentence that names a boundary
// has tests of its own here, under its words and with answers worked out by
// hand. That refused calls and questions change nothing is in UnchangedTest.
public final class BoundaryTest {
    private static final int FACT = 0;
    private static final int NOT = 1;
    private static final int KNOWS = 5;
    private static final int[] GROUP_KINDS = {6, 7, 8};
    private static final int[] TAKE_ONE = {1, 5, 6, 7, 8};
    private static final int[] TAKE_TWO = {2, 3, 4, 9};
    // An argument that every kind of token allows.
    private static final int ANY = 1;

    // Holds everywhere, and nowhere, in whatever state.
    private static final String ALWAYS = "p0 p0 iff";
    private static final String NEVER = "p0 p0 iff not";

    private static Run fresh() {
        return new Run();
    }

    // Worlds 4 to 11 are left: 0 and 15 are not there.
    private static Run middle() {
        return fresh().actual(5).with("p2 p3 iff not", "say");
    }

    private static Run onlyWorld(int w) {
        return fresh().actual(w).with(Run.exactly(w), "say");
    }

    // Each agent can tell every world from every other.
    private static Run allTold() {
        Run x = fresh();
        for (int a = 0; a < 3; a++) {
            for (int p = 0; p < 4; p++) {
                x.with("p" + p, "learn", a);
            }
        }
        return x;
    }

    // Agent a knows fact a and no other.
    private static Run oneFactEach() {
        return fresh().with("p0", "learn", 0).with("p1", "learn", 1).with("p2", "learn", 2);
    }

    // Agent a knows all facts but fact a.
    private static Run oneDoubtEach() {
        Run x = fresh();
        for (int a = 0; a < 3; a++) {
            for (int p = 0; p < 4; p++) {
                if (p != a) {
                    x.with("p" + p, "learn", a);
                }
            }
        }
        return x;
    }

    // The first agent can't tell 2k from 2k + 1, the second 2k - 1 from 2k: a
    // chain from world 0 to world 15, 15 steps long.
    private static Run chain(int first, int second) {
        return fresh().with("p1", "learn", first).with("p2", "learn", first).with("p3", "learn", first)
            .with("p0 p1 iff", "learn", second).with("p0 p1 and p2 iff", "learn", second)
            .with("p0 p1 and p2 and p3 iff", "learn", second)
            .with("p0 p1 and p2 and p3 and", "learn", second);
    }

    // From now on no world has a fact but this one, which has fact 0.
    private static Run onlyFactIn(int w, Run x) {
        return x.with(Run.exactly(w), "turn", 0).with(NEVER, "turn", 1).with(NEVER, "turn", 2).with(NEVER, "turn", 3);
    }

    private static Run chainToFactIn(int end) {
        return onlyFactIn(end, chain(0, 1));
    }

    private static void manyCalls() {
        Run.sentence("An object is used for at most 512 calls after it has been made");
        Run x = fresh();
        for (int i = 1; i <= 255; i++) {
            x.due(1, "token", FACT, i % 4).due(0, "drop");
        }
        x.due(1, "token", FACT, 3).due(Run.P3, "where");
        Run y = fresh().put("p0 not");
        for (int i = 3; i <= 511; i++) {
            y.due(16, "turn", 0);
        }
        y.due(Run.P0, "where");
    }

    private static void worldsOfTheTerms() {
        Run.sentence("There are at most 16 WORLDS, numbered 0 to 15; not all of them need be there.");
        fresh().due(16, "worlds").due(0, "facts", 0).due(15, "facts", 15)
            .due(-1, "facts", -1).due(-1, "facts", 16);
        for (int w = 0; w < 16; w++) {
            Run x = onlyWorld(w).due(1, "worlds");
            for (int v = 0; v < 16; v++) {
                x.due(v == w ? w : -1, "facts", v);
            }
        }
        middle().due(8, "worlds").due(-1, "facts", 3).due(4, "facts", 4).due(11, "facts", 11).due(-1, "facts", 12);

        Run.sentence("In each world each of the four FACTS, 0 to 3, is so or is not.");
        for (int p = 0; p < 4; p++) {
            fresh().dueWhere(Run.FACT_SETS[p], "p" + p).dueWhere(Run.EVERY & ~Run.FACT_SETS[p], "p" + p + " not");
        }

        Run.sentence("Each of the three AGENTS, 0 to 2, parts the worlds that are there into CLASSES");
        for (int a = 0; a < 3; a++) {
            fresh().due(1, "classes", a).due(1, "together", a, 0, 15);
            allTold().due(16, "classes", a).due(0, "together", a, 0, 15).due(0, "together", a, 0, 1);
            onlyWorld(9).due(1, "classes", a).due(1, "together", a, 9, 9);
        }

        Run.sentence("One world that is there is the ACTUAL one.");
        for (int w = 0; w < 16; w++) {
            onlyWorld(w).due(-1, "actual", w == 0 ? 15 : 0).due(w, "actual", w);
        }
        middle().due(-1, "actual", 0).due(5, "actual", 11).due(-1, "actual", 12).due(11, "actual", 4);
    }

    private static void setsOfAgents() {
        Run.sentence("A set of agents is written as a number g from 1 to 7 that has the binary digit a for agent a.");
        for (int g = 1; g <= 7; g++) {
            int allOfThem = Run.EVERY;
            int oneOfThem = 0;
            int oneStepFrom7 = 1 << 7;
            int linkedWith7 = 0;
            for (int a = 0; a < 3; a++) {
                if ((g >> a & 1) == 1) {
                    allOfThem &= Run.FACT_SETS[a];
                    oneOfThem |= Run.FACT_SETS[a];
                    oneStepFrom7 |= 1 << (7 - (1 << a));
                }
            }
            for (int w = 0; w < 16; w++) {
                linkedWith7 |= (w | g) == 7 ? 1 << w : 0;
            }
            oneFactEach().dueWhere(allOfThem, "p0 p1 or p2 or all" + g).dueWhere(oneOfThem, "p0 p1 or p2 or together" + g);
            oneDoubtEach().dueWhere(Run.EVERY & ~oneStepFrom7, Run.exactly(7) + " not all" + g)
                .dueWhere(Run.EVERY & ~linkedWith7, Run.exactly(7) + " not common" + g);
        }
    }

    private static void plainFormulas() {
        Run.sentence("0 FACT a: fact a (0 to 3) is so in w");
        fresh().put("p0").due(0, "holds", 0).due(1, "holds", 1).due(0, "holds", 14).due(1, "holds", 15);
        fresh().put("p3").due(0, "holds", 0).due(0, "holds", 7).due(1, "holds", 8).due(1, "holds", 15);
        middle().dueWhere(0x0AA0, "p0").dueWhere(0x0F00, "p3");

        Run.sentence("1 NOT: F does not hold in w");
        fresh().dueWhere(0, ALWAYS + " not").dueWhere(Run.EVERY, NEVER + " not").dueWhere(Run.EVERY & ~Run.P1, "p1 not");
        middle().dueWhere(0, ALWAYS + " not").dueWhere(0x0FF0, NEVER + " not").dueWhere(0x0550, "p0 not");

        Run.sentence("2 AND: F and G hold in w");
        fresh().put("p0 p1 and").due(0, "holds", 0).due(0, "holds", 1).due(0, "holds", 2).due(1, "holds", 3);

        Run.sentence("3 OR: F or G holds in w (or both)");
        fresh().put("p0 p1 or").due(0, "holds", 0).due(1, "holds", 1).due(1, "holds", 2).due(1, "holds", 3);

        Run.sentence("4 IFF: both hold in w, or neither does");
        fresh().put("p0 p1 iff").due(1, "holds", 0).due(0, "holds", 1).due(0, "holds", 2).due(1, "holds", 3);
        middle().dueWhere(0x0990, "p0 p1 iff").dueWhere(0x0FF0, NEVER + " " + NEVER + " iff");
    }

    private static void formulasOfAgents() {
        String not15 = Run.exactly(15) + " not";
        Run.sentence("5 KNOWS a: F holds in all worlds of the class of agent a (0 to 2) in which w is");
        for (int a = 0; a < 3; a++) {
            fresh().dueWhere(Run.EVERY, ALWAYS + " knows" + a).dueWhere(0, NEVER + " knows" + a)
                .dueWhere(0, not15 + " knows" + a);
            allTold().dueWhere(Run.EVERY & ~0x8000, not15 + " knows" + a).dueWhere(1, Run.exactly(0) + " knows" + a);
            oneFactEach().dueWhere(Run.FACT_SETS[a], "p" + a + " knows" + a).dueWhere(0, "p3 knows" + a)
                .dueWhere(0, "p" + (a + 1) % 3 + " knows" + a);
            // A class that has lost the worlds in which F does not hold.
            fresh().actual(1).with("p0", "say").dueWhere(Run.P0, "p0 knows" + a);
            middle().dueWhere(0x0FF0, "p2 p3 or knows" + a).dueWhere(0, "p2 knows" + a);
        }

        Run.sentence("6 ALL g: for every agent of g, F holds in all worlds of this agent's class in which w is");
        chain(0, 1).dueWhere(0x3FFF, not15 + " all1").dueWhere(0x7FFF, not15 + " all2").dueWhere(0, not15 + " all4")
            .dueWhere(0x3FFF, not15 + " all3").dueWhere(0, not15 + " all7");
        allTold().dueWhere(0x7FFF, not15 + " all7");
        fresh().dueWhere(Run.EVERY, ALWAYS + " all7").dueWhere(0, NEVER + " all7");
        middle().dueWhere(0x0FF0, "p2 p3 or all7");

        Run.sentence("7 COMMON g: F holds in w");
        allTold().dueWhere(0x7FFF, not15 + " common7").dueWhere(0, NEVER + " common1");

        Run.sentence("and in all worlds that one can come to from w by going, again and again, from a world to another one"
            + " of the same class of some agent of g");
        fresh().dueWhere(Run.EVERY, ALWAYS + " common7").dueWhere(0, not15 + " common1");
        int[][] pairs = {{0, 1}, {1, 0}, {0, 2}, {2, 0}, {1, 2}, {2, 1}};
        for (int[] pair : pairs) {
            int g = 1 << pair[0] | 1 << pair[1];
            chain(pair[0], pair[1]).dueWhere(0, not15 + " common" + g).dueWhere(0, Run.exactly(0) + " not common" + g)
                .dueWhere(0x3FFF, not15 + " common" + (1 << pair[0])).dueWhere(0x7FFF, not15 + " common" + (1 << pair[1]));
        }
        // There is no way through a world that is not there.
        chain(0, 1).with(Run.exactly(8) + " not", "say").dueWhere(0x00FF, not15 + " common3");
        chain(0, 1).with(Run.exactly(1) + " not", "say").dueWhere(0x0001, not15 + " common3");

        Run.sentence("8 TOGETHER g: F holds in all worlds that are in the same class as w for every agent of g");
        oneDoubtEach().dueWhere(Run.EVERY & ~0x80, Run.exactly(7) + " not together3")
            .dueWhere(Run.EVERY & ~0xC0, Run.exactly(7) + " not together1");
        fresh().dueWhere(0, not15 + " together7").dueWhere(Run.EVERY, ALWAYS + " together7").dueWhere(0, NEVER + " together7");
        middle().dueWhere(0x0FF0, "p2 p3 or together7");
    }

    private static void formulasOfAfter() {
        Run.sentence("9 AFTER: F does not hold in w");
        fresh().dueWhere(Run.EVERY, NEVER + " " + NEVER + " after").dueWhere(Run.EVERY & ~Run.P0, "p0 " + NEVER + " after");
        middle().dueWhere(0x0FF0, NEVER + " p0 after");

        Run.sentence("or, if all worlds in which F does not hold are taken away, G holds in w");
        fresh().dueWhere(Run.P1, ALWAYS + " p1 after").dueWhere(0, ALWAYS + " p1 knows0 after")
            .dueWhere(Run.EVERY, "p1 p1 common7 after").dueWhere(0xDFFF, Run.exactly(13) + " p1 knows0 after")
            .dueWhere(Run.EVERY, Run.exactly(13) + " p0 p1 not and all7 after");
        // With world 8 away there is no way from 0 .. 7 to 15.
        chain(0, 1).dueWhere(0x01FF, Run.exactly(8) + " not " + Run.exactly(15) + " not common3 after");

        Run.sentence("(F being taken with the worlds as they are, G with those that are left)");
        fresh().dueWhere(Run.EVERY, "p0 knows0 p1 after").dueWhere(Run.EVERY, "p0 p0 knows0 after")
            .dueWhere(Run.EVERY & ~Run.P0, "p0 p0 knows0 not after")
            .dueWhere(Run.EVERY & ~Run.P0, "p0 p0 not common7 after")
            // In the G of an AFTER the F of another one has the worlds that are left.
            .dueWhere(Run.EVERY & ~Run.P0 | Run.P1, "p0 p0 knows0 p1 after after")
            .dueWhere(Run.EVERY, "p0 p0 knows0 not p1 after after")
            // In the F of an AFTER, and behind it, the worlds are as they are.
            .dueWhere(Run.EVERY, "p0 p0 knows0 after p0 knows0 not after")
            .dueWhere(0, "p0 p0 knows0 after p0 knows0 and");
        // Whatever the inner F is, no world comes back by it.
        for (String f : new String[] {"p1", "p1 not", "p1 p2 and", "p1 p2 or", "p1 p2 iff", "p0 knows1", "p0 all7", "p0 common7",
            "p0 together7", "p1 p2 after"}) {
            fresh().dueWhere(Run.EVERY, "p0 " + f + " p0 knows0 after after").dueWhere(Run.EVERY, "p0 " + f + " p0 together5 after after");
        }
        // Worlds that were taken away before stay away.
        middle().dueWhere(0x0FF0, "p0 p0 p2 p3 or and knows0 after").dueWhere(0x0550, "p0 p2 knows0 after");
        // As many in one another as the stack and the 24 tokens allow.
        fresh().dueWhere(Run.EVERY, "p0 p1 p2 p3 p0 p1 and p2 and p3 and common7 after after after after")
            .dueWhere(0x7FFF, "p0 p1 p2 p3 p0 p1 and p2 and p3 and knows0 not after after after after")
            .dueWhere(0x7FFF, "p0 p1 p2 p3 p0 p0 not after after after after after")
            .dueWhere(Run.EVERY, "p0 p1 p2 p3 p0 p3 knows0 after after after after after")
            .dueWhere(Run.P1 | ~Run.P0 & Run.EVERY, "p0 p1 after p2 p2 iff after p1 p1 iff after p0 p1 after after");
    }

    private static void orderOfTests() {
        Run.sentence("The tests of a call are made in the order in which they are named: token, -1 ahead of -2");
        for (int kind : Run.outside(0, 9)) {
            fresh().due(-1, "token", kind, ANY);
        }
        for (int a : Run.outside(0, 2)) {
            fresh().due(-1, "token", KNOWS, a);
        }
        for (int g : Run.outside(1, 7)) {
            fresh().due(-1, "token", 6, g).due(-1, "token", 7, g).due(-1, "token", 8, g);
        }
        Run.sentence("The tests of a call are made in the order in which they are named: token, -1 ahead of -3");
        for (int a : Run.outside(0, 3)) {
            sixFormulas().due(-1, "token", FACT, a);
        }
        for (int kind : Run.outside(0, 9)) {
            sixFormulas().due(-1, "token", kind, ANY);
        }
        Run.sentence("The tests of a call are made in the order in which they are named: token, -1 ahead of -4");
        for (int kind : Run.outside(0, 9)) {
            fresh().put(Run.ofSize(0, 24)).due(-1, "token", kind, ANY);
        }
        for (int a : Run.outside(0, 2)) {
            fresh().put(Run.ofSize(0, 24)).due(-1, "token", KNOWS, a);
        }
        for (int g : Run.outside(1, 7)) {
            fresh().put(Run.ofSize(0, 24)).due(-1, "token", 6, g).due(-1, "token", 7, g).due(-1, "token", 8, g);
        }
        Run.sentence("The tests of a call are made in the order in which they are named: token, -2 ahead of -4");
        for (int kind : TAKE_TWO) {
            // With whatever it would take besides, 23 tokens are too many too.
            fresh().put(Run.ofSize(0, 24)).due(-2, "token", kind, ANY);
            fresh().put(Run.ofSize(0, 23)).due(-2, "token", kind, ANY);
        }
        Run.sentence("The tests of a call are made in the order in which they are named: token, -3 beside full formulas");
        Run full = fresh();
        for (int i = 0; i < 6; i++) {
            full.put(Run.ofSize(i % 4, 24));
        }
        full.due(-3, "token", FACT, 0).due(-1, "token", FACT, 4).due(-4, "token", NOT, 0).due(-4, "token", 2, 0);
        Run.sentence("The tests of a call are made in the order in which they are named: learn, -1 ahead of -2");
        for (int a : Run.outside(0, 2)) {
            fresh().due(-1, "learn", a);
        }
        Run.sentence("The tests of a call are made in the order in which they are named: turn, -1 ahead of -2");
        for (int p : Run.outside(0, 3)) {
            fresh().due(-1, "turn", p);
        }
    }

    private static void newObject() {
        Run.sentence("1: The beginning");
        Run x = fresh().due(16, "worlds").due(16, "kinds").due(0, "actual", 0);
        for (int w = 0; w < 16; w++) {
            x.due(w, "facts", w).due(1, "together", 0, 0, w).due(1, "together", 1, w, 15).due(1, "together", 2, w, 15 - w);
        }
        x.due(1, "classes", 0).due(1, "classes", 1).due(1, "classes", 2);

        Run.sentence("1: no formulas");
        fresh().due(-1, "drop");
        fresh().due(-1, "where").due(-1, "holds", 0).due(-1, "say").due(-2, "learn", 0).due(-2, "turn", 0);
        fresh().due(-2, "token", NOT, ANY);
        fresh().due(1, "token", FACT, 0);
        Run.sentence("1: no formulas, whatever another object has");
        fresh().put("p0").put("p1");
        fresh().due(-1, "drop").due(16, "worlds");
    }

    private static void restart() {
        Run.sentence("2: All is as in the beginning");
        Run x = middle().with("p0", "learn", 0).with("p0 p1 iff", "learn", 2).with("p0 not", "turn", 3).restart();
        x.due(16, "worlds").due(0, "actual", 0).due(1, "classes", 0).due(1, "classes", 1).due(1, "classes", 2);
        for (int w = 0; w < 16; w++) {
            x.due(w, "facts", w).due(1, "together", 0, 0, w).due(1, "together", 2, w, 15);
        }
        onlyWorld(15).restart().due(16, "worlds").due(0, "actual", 15).due(15, "actual", 0);
        allTold().restart().due(1, "classes", 0).due(1, "classes", 1).due(1, "classes", 2).due(-2, "needed", 0, 0);
        fresh().restart().due(16, "worlds").due(0, "actual", 0);

        Run.sentence("2: but the formulas stay, if there are none");
        fresh().restart().due(-1, "drop");
        middle().restart().due(-1, "where");
        Run.sentence("2: but the formulas stay, if the stack is full");
        Run full = fresh();
        for (int i = 0; i < 6; i++) {
            full.put(Run.ofSize(i % 4, 24));
        }
        full.call("say");
        full.call("turn", 2);
        full.restart().due(-3, "token", FACT, 0).due(-4, "token", NOT, ANY);
        for (int i = 5; i >= 0; i--) {
            full.due(Run.whereOfSize(i % 4, 24), "where").due(i, "drop");
        }
        full.due(-1, "drop");
    }

    private static void actual() {
        Run.sentence("3: World w becomes actual.");
        for (int w = 0; w < 16; w++) {
            fresh().actual(w).put(Run.exactly(w)).due(1, "say").due(w, "facts", w);
        }
        Run.sentence("3: w is not 0 to 15: -1");
        for (int w : Run.outside(0, 15)) {
            fresh().due(-1, "actual", w);
            onlyWorld(3).due(-1, "actual", w);
        }
        Run.sentence("3: or is not there: -1");
        for (int w = 0; w < 16; w++) {
            middle().due(w >= 4 && w <= 11 ? 5 : -1, "actual", w);
        }
        Run.sentence("3: Else answers which one was.");
        Run x = fresh().due(0, "actual", 0);
        for (int w = 1; w < 16; w++) {
            x.due(w - 1, "actual", w).due(w, "actual", w);
        }
        x.due(15, "actual", 0);
    }

    private static void tokenArguments() {
        Run.sentence("4: kind is not 0 to 9: -1");
        for (int kind : Run.outside(0, 9)) {
            fresh().put("p0").put("p1").due(-1, "token", kind, ANY);
        }
        int[] after = {3, 2, 1, 1, 1, 2, 2, 2, 2, 1};
        for (int kind = 0; kind <= 9; kind++) {
            fresh().put("p0").put("p1").due(after[kind], "token", kind, ANY);
        }
        Run.sentence("4: a is not 0 to 3 for FACT: -1");
        for (int a : Run.outside(0, 3)) {
            fresh().due(-1, "token", FACT, a);
        }
        for (int a = 0; a <= 3; a++) {
            fresh().due(1, "token", FACT, a).due(Run.FACT_SETS[a], "where");
        }
        Run.sentence("4: not 0 to 2 for KNOWS: -1");
        for (int a : Run.outside(0, 2)) {
            fresh().put("p0").due(-1, "token", KNOWS, a);
        }
        for (int a = 0; a <= 2; a++) {
            oneFactEach().put("p" + a).due(1, "token", KNOWS, a).due(Run.FACT_SETS[a], "where");
        }
        Run.sentence("4: not 1 to 7 for ALL, COMMON and TOGETHER: -1");
        for (int kind : GROUP_KINDS) {
            for (int g : Run.outside(1, 7)) {
                fresh().put("p0").due(-1, "token", kind, g);
            }
            for (int g = 1; g <= 7; g++) {
                fresh().put("p0").due(1, "token", kind, g).due(0, "where");
            }
        }
        Run.sentence("4: (otherwise a is not looked at)");
        for (int a : Run.outside(1, 2)) {
            fresh().put("p0").due(1, "token", 1, a).due(Run.EVERY & ~Run.P0, "where");
            fresh().put("p0").put("p1").due(1, "token", 2, a).due(Run.P0 & Run.P1, "where");
            fresh().put("p0").put("p1").due(1, "token", 3, a).due(Run.P0 | Run.P1, "where");
            fresh().put("p0").put("p1").due(1, "token", 4, a).due(Run.EVERY & ~(Run.P0 ^ Run.P1), "where");
            fresh().put("p0").put("p1").due(1, "token", 9, a).due(Run.EVERY & ~Run.P0 | Run.P1, "where");
        }
    }

    private static void tokenAndTheStack() {
        Run.sentence("4: The stack has fewer formulas than it takes: -2");
        for (int kind : TAKE_ONE) {
            fresh().due(-2, "token", kind, ANY);
            fresh().put("p0").due(1, "token", kind, ANY);
            fresh().put("p0").due(0, "drop").due(-2, "token", kind, ANY);
        }
        for (int kind : TAKE_TWO) {
            fresh().due(-2, "token", kind, ANY);
            fresh().put("p0").due(-2, "token", kind, ANY);
            fresh().put("p0").put("p1").due(1, "token", kind, ANY).due(-2, "token", kind, ANY);
        }
        fresh().due(1, "token", FACT, ANY);

        Run.sentence("4: it takes none and the stack has 6: -3");
        for (int p = 0; p < 4; p++) {
            sixFormulas().due(-3, "token", FACT, p);
        }
        sixFormulas().due(5, "drop").due(6, "token", FACT, 0).due(-3, "token", FACT, 0);
        for (int kind : TAKE_ONE) {
            sixFormulas().due(6, "token", kind, ANY).due(-3, "token", FACT, 0);
        }
        for (int kind : TAKE_TWO) {
            sixFormulas().due(5, "token", kind, ANY).due(6, "token", FACT, 0).due(-3, "token", FACT, 0);
        }

        Run.sentence("4: Else answers how many formulas are on the stack then.");
        Run x = fresh();
        for (int i = 1; i <= 6; i++) {
            x.due(i, "token", FACT, ANY).due(i, "token", NOT, ANY);
        }
        for (int i = 5; i >= 1; i--) {
            x.due(i, "token", TAKE_TWO[i % 4], ANY);
        }
    }

    private static Run sixFormulas() {
        return fresh().put("p0").put("p1").put("p2").put("p3").put("p0 not").put("p1 not");
    }

    private static void tokenAndTheSize() {
        Run.sentence("4: the new formula would have more than 24 tokens: -4");
        for (int kind : TAKE_ONE) {
            fresh().put(Run.ofSize(2, 22)).due(1, "token", kind, ANY).due(1, "token", kind, ANY)
                .due(-4, "token", kind, ANY).due(-4, "token", kind, ANY);
            fresh().put(Run.ofSize(2, 24)).due(-4, "token", kind, ANY);
        }
        for (int kind : TAKE_TWO) {
            for (int f = 1; f <= 24; f++) {
                for (int g = 1; g <= 24; g++) {
                    fresh().put(Run.ofSize(2, f)).put(Run.ofSize(3, g)).due(f + g + 1 > 24 ? -4 : 1, "token", kind, ANY);
                }
            }
        }
        Run.sentence("4: more than 24 tokens, in a formula whose parts have parts");
        for (int kind : TAKE_TWO) {
            // 7 + 16 + 1 tokens, and none more.
            fresh().put("p0 p1 or p2 p3 or and").put("p0 p1 or p2 p3 or and").put("p0 p1 or p2 p3 or and not not")
                .due(2, "token", kind, ANY).due(-4, "token", kind, ANY).due(2, "token", NOT, ANY).due(1, "drop")
                .put(Run.ofSize(0, 16)).due(1, "token", kind, ANY).due(-4, "token", NOT, ANY);
        }
        Run.sentence("a formula has as many tokens as were put for it, at most 24");
        Run x = fresh();
        for (int i = 0; i < 6; i++) {
            x.put(Run.ofSize(i % 4, 24)).due(-4, "token", NOT, ANY);
        }
        for (int i = 5; i >= 0; i--) {
            x.due(Run.whereOfSize(i % 4, 24), "where").due(-4, "token", KNOWS, ANY).due(i, "drop");
        }
        Run.sentence("on a stack of at most 6 formulas");
        for (int round = 0; round < 3; round++) {
            for (int i = 1; i <= 6; i++) {
                x.due(i, "token", FACT, 3);
            }
            x.due(-3, "token", FACT, 3);
            for (int i = 5; i >= 0; i--) {
                x.due(Run.P3, "where").due(i, "drop");
            }
        }
    }

    private static void drop() {
        Run.sentence("5: Takes the top off.");
        sixFormulas().due(5, "drop").due(Run.EVERY & ~Run.P0, "where").due(4, "drop").due(Run.P3, "where")
            .due(3, "drop").due(Run.P2, "where").due(2, "drop").due(Run.P1, "where").due(1, "drop").due(Run.P0, "where");
        fresh().put("p0 knows1").put(Run.ofSize(2, 24)).put("p0 p1 and p2 p3 and or").due(2, "drop")
            .due(Run.EVERY & ~Run.P2, "where").due(1, "drop").due(0, "where").due(0, "drop");
        Run.sentence("5: The stack is empty: -1.");
        fresh().due(-1, "drop").due(-1, "drop");
        fresh().put("p0").due(0, "drop").due(-1, "drop").due(-1, "drop").due(1, "token", FACT, 1).due(Run.P1, "where");
        fresh().put("p0 p1 and").due(0, "drop").due(-1, "drop");
        Run.sentence("5: Else answers how many formulas are left.");
        Run x = sixFormulas();
        for (int i = 5; i >= 0; i--) {
            x.due(i, "drop");
        }
    }

    private static void say() {
        Run.sentence("6: the worlds in which it does not hold are taken away");
        fresh().put(ALWAYS).due(16, "say").due(16, "worlds");
        fresh().put(Run.exactly(15) + " not").due(15, "say").due(-1, "facts", 15).due(14, "facts", 14);
        for (int w = 0; w < 16; w++) {
            fresh().actual(w).put(Run.exactly(w)).due(1, "say").due(1, "say").due(1 << w, "where").due(w, "actual", w);
        }
        middle().put("p0").due(4, "say").due(-1, "facts", 4).due(5, "facts", 5).due(11, "facts", 11).due(-1, "facts", 13);
        Run.sentence("6: The stack is empty: -1");
        fresh().due(-1, "say");
        fresh().put("p0 not").due(0, "drop").due(-1, "say").due(16, "worlds");
        onlyWorld(7).due(-1, "say");
        Run.sentence("6: the top does not hold in the actual world: -2");
        fresh().put(NEVER).due(-2, "say");
        onlyWorld(12).put(NEVER).due(-2, "say").due(1, "worlds");
        for (int w = 0; w < 16; w++) {
            fresh().actual(w).put(Run.exactly(w) + " not").due(-2, "say").due(16, "worlds");
            fresh().actual(15 - w).put(Run.exactly(w)).due(-2, "say").due(16, "worlds");
        }
        fresh().put("p0 not").put("p0").due(-2, "say");
        Run.sentence("6: Else answers how many worlds are there then.");
        fresh().put("p0 not").due(8, "say").put("p1 not").due(4, "say").put("p2 not").due(2, "say").put("p3 not").due(1, "say")
            .due(1, "say").due(1, "worlds");
        Run.sentence("6: The formula stays.");
        fresh().put("p1").put("p0 not").due(8, "say").due(0x5555, "where").due(1, "drop").due(0x4444, "where").due(0, "drop");
        fresh().put("p1").put("p0").due(-2, "say").due(Run.P0, "where").due(1, "drop");
        fresh().put(Run.ofSize(0, 24)).due(8, "say").due(-4, "token", NOT, ANY).due(0, "drop");
    }

    private static void learn() {
        Run.sentence("7: each of its classes is parted into the worlds in which it holds and the others");
        for (int a = 0; a < 3; a++) {
            fresh().put(ALWAYS).due(1, "learn", a).put(NEVER).due(1, "learn", a).due(1, "together", a, 0, 15);
            Run x = fresh();
            for (int w = 0; w < 15; w++) {
                x.put(Run.exactly(w)).due(w + 2, "learn", a).due(0, "together", a, w, 15);
                x.call("drop");
            }
            x.put(Run.exactly(15)).due(16, "learn", a).due(0, "together", a, 0, 1);
        }
        oneFactEach().put("p0").due(2, "learn", 0).put("p0 not").due(2, "learn", 0).put("p0 p1 and").due(3, "learn", 0)
            .due(1, "together", 0, 0, 2).due(0, "together", 0, 1, 3).due(1, "together", 0, 3, 7);
        Run.sentence("7: An agent learns whether the top holds: the others do not");
        fresh().put("p0").due(2, "learn", 1).due(1, "classes", 0).due(1, "classes", 2);
        fresh().put("p0").due(2, "learn", 0).due(1, "classes", 1).due(2, "learn", 2).due(1, "classes", 1);
        Run.sentence("7: a is not 0 to 2: -1");
        for (int a : Run.outside(0, 2)) {
            fresh().put("p0").due(-1, "learn", a);
        }
        Run.sentence("7: the stack is empty: -2");
        for (int a = 0; a < 3; a++) {
            fresh().due(-2, "learn", a);
            middle().due(-2, "learn", a).due(1, "classes", a);
        }
        Run.sentence("7: Else answers how many classes the agent has then.");
        middle().put("p2").due(2, "learn", 0).put("p3").due(2, "learn", 0).put("p0").due(4, "learn", 0).due(1, "classes", 1);
        onlyWorld(6).put("p1").due(1, "learn", 2).put("p0").due(1, "learn", 2);
        fresh().put("p0").due(2, "learn", 1).put("p0 not").due(8, "say").due(1, "learn", 1);
        Run.sentence("7: The formula stays.");
        fresh().put("p2").put("p3").due(2, "learn", 1).due(Run.P3, "where").due(1, "drop").due(Run.P2, "where").due(0, "drop");
    }

    private static void turn() {
        Run.sentence("8: Fact p becomes so, in every world, just if the top holds there");
        for (int p = 0; p < 4; p++) {
            Run all = fresh().put(ALWAYS).due(8, "turn", p);
            Run none = fresh().put(NEVER).due(8, "turn", p);
            for (int w = 0; w < 16; w++) {
                all.due(w | 1 << p, "facts", w);
                none.due(w & ~(1 << p), "facts", w);
            }
        }
        Run.sentence("8: (all worked out before anything is changed)");
        fresh().put("p0 not").due(16, "turn", 0).due(Run.P0, "where").due(1, "facts", 0).due(14, "facts", 15);
        for (int p = 0; p < 4; p++) {
            // Once the fact were so in all worlds, or in none, each formula
            // would hold elsewhere than it did.
            Run all = fresh().put("p" + p + " knows1 not").due(8, "turn", p);
            Run none = fresh().put("p" + p + " not common7").due(8, "turn", p);
            for (int w = 0; w < 16; w++) {
                all.due(w | 1 << p, "facts", w);
                none.due(w & ~(1 << p), "facts", w);
            }
        }
        chain(0, 1).put("p0 not knows1").due(9, "turn", 0);
        Run.sentence("8: p is not 0 to 3: -1");
        for (int p : Run.outside(0, 3)) {
            fresh().put("p0").due(-1, "turn", p);
        }
        Run.sentence("8: the stack is empty: -2");
        for (int p = 0; p < 4; p++) {
            fresh().due(-2, "turn", p);
            middle().due(-2, "turn", p);
        }
        Run.sentence("8: Else answers in how many worlds it changed.");
        for (int p = 0; p < 4; p++) {
            fresh().put("p" + p).due(0, "turn", p).put("p" + p + " not").due(16, "turn", p);
            fresh().put("p" + p + " " + Run.exactly(0) + " or").due(1, "turn", p).due(0, "turn", p);
            middle().put("p" + p + " not").due(8, "turn", p);
            onlyWorld(10).put("p" + p + " not").due(1, "turn", p).put(Run.ofSize(p, 1)).due(0, "turn", p);
        }
        Run.sentence("8: The formula stays.");
        fresh().put("p2").put("p3").due(8, "turn", 0).due(Run.P3, "where").due(1, "drop").due(Run.P2, "where").due(0, "drop");
        fresh().put("p0").put("p3").due(8, "turn", 0).due(1, "drop").due(Run.P3, "where");
    }

    private static void worldsAndFacts() {
        Run.sentence("9: How many worlds are there.");
        fresh().due(16, "worlds");
        fresh().with(Run.exactly(15) + " not", "say").due(15, "worlds");
        middle().due(8, "worlds");
        onlyWorld(0).due(1, "worlds");
        onlyWorld(15).due(1, "worlds");

        Run.sentence("10: The facts that are so in a world: the number with digit p for fact p");
        fresh().due(0, "facts", 0).due(1, "facts", 1).due(2, "facts", 2).due(4, "facts", 4).due(8, "facts", 8).due(15, "facts", 15);
        fresh().with(NEVER, "turn", 3).due(7, "facts", 15).due(0, "facts", 8).with(ALWAYS, "turn", 0).due(1, "facts", 8);
        Run.sentence("10: -1 if w is not 0 to 15");
        for (int w : Run.outside(0, 15)) {
            fresh().due(-1, "facts", w);
        }
        Run.sentence("10: or is not there");
        for (int w = 0; w < 16; w++) {
            middle().due(w >= 4 && w <= 11 ? w : -1, "facts", w);
        }
    }

    private static void classesAndTogether() {
        Run.sentence("11: How many classes an agent has");
        for (int a = 0; a < 3; a++) {
            fresh().due(1, "classes", a);
            allTold().due(16, "classes", a).with("p0 not", "say").due(8, "classes", a);
            onlyWorld(15).due(1, "classes", a);
            allTold().actual(15).with(Run.exactly(15), "say").due(1, "classes", a);
        }
        chain(1, 2).due(1, "classes", 0).due(8, "classes", 1).due(9, "classes", 2);
        // A class that lost one of its worlds, then the other one too.
        chain(0, 1).with(Run.exactly(2) + " not", "say").due(8, "classes", 0)
            .with(Run.exactly(3) + " not", "say").due(7, "classes", 0);
        Run.sentence("11: -1 if a is not 0 to 2");
        for (int a : Run.outside(0, 2)) {
            fresh().due(-1, "classes", a);
        }

        Run.sentence("12: 1 if two worlds are in one class of agent a, else 0");
        for (int a = 0; a < 3; a++) {
            for (int w = 0; w < 16; w++) {
                allTold().due(1, "together", a, w, w).due(0, "together", a, w, 15 - w);
                oneDoubtEach().due(1, "together", a, w, w ^ 1 << a).due(0, "together", a, w, w ^ 8);
            }
        }
        Run.sentence("12: -1 if a is not 0 to 2");
        for (int a : Run.outside(0, 2)) {
            fresh().due(-1, "together", a, 0, 0).due(-1, "together", a, 15, 15);
        }
        Run.sentence("12: or w or v is no world that is there");
        for (int a = 0; a < 3; a++) {
            for (int w : Run.outside(0, 15)) {
                fresh().due(-1, "together", a, w, 0).due(-1, "together", a, 0, w).due(-1, "together", a, w, w);
            }
            middle().due(-1, "together", a, 3, 4).due(-1, "together", a, 4, 3).due(-1, "together", a, 3, 3)
                .due(1, "together", a, 4, 11).due(-1, "together", a, 12, 11).due(-1, "together", a, 11, 12)
                .due(-1, "together", a, 0, 15);
        }
    }

    private static void holdsAndWhere() {
        Run.sentence("13: 1 if the top holds in world w, else 0");
        Run x = fresh().put("p0 not").put("p0");
        for (int w = 0; w < 16; w++) {
            x.due(w % 2, "holds", w);
        }
        Run.sentence("13: -1 if the stack is empty");
        for (int w = 0; w < 16; w++) {
            fresh().due(-1, "holds", w);
        }
        fresh().put("p0 not").due(0, "drop").due(-1, "holds", 0);
        Run.sentence("13: or w is no world that is there");
        for (int w : Run.outside(0, 15)) {
            fresh().put(ALWAYS).due(-1, "holds", w);
        }
        for (int w = 0; w < 16; w++) {
            boolean there = w >= 4 && w <= 11;
            middle().put(ALWAYS).due(there ? 1 : -1, "holds", w).put(NEVER).due(there ? 0 : -1, "holds", w);
        }

        Run.sentence("14: The worlds in which the top holds: the number with digit w for world w");
        fresh().put(ALWAYS).due(65535, "where").put(NEVER).due(0, "where");
        for (int w = 0; w < 16; w++) {
            fresh().put(Run.exactly(w)).due(1 << w, "where");
            onlyWorld(w).put(ALWAYS).due(1 << w, "where").put(NEVER).due(0, "where");
        }
        middle().put(ALWAYS).due(0x0FF0, "where");
        Run.sentence("14: -1 if the stack is empty");
        fresh().due(-1, "where");
        fresh().put("p0 p1 or").due(0, "drop").due(-1, "where");
        onlyWorld(2).due(-1, "where");
    }

    // Agent a can tell the even worlds from the odd ones, and only even ones
    // may have fact 1; none has fact 0.
    private static Run factOfEvenWorlds(int a) {
        return fresh().with("p0", "learn", a).with("p1 p0 not and", "turn", 1).with(NEVER, "turn", 0);
    }

    private static void apart() {
        Run.sentence("15: 0 if their facts differ");
        fresh().due(0, "apart", 0, 1).due(0, "apart", 15, 14).due(0, "apart", 0, 15);
        allTold().due(0, "apart", 0, 8);
        for (int p = 0; p < 4; p++) {
            // Only fact p is left to differ.
            Run x = fresh();
            for (int q = 0; q < 4; q++) {
                if (q != p) {
                    x.with(NEVER, "turn", q);
                }
            }
            x.due(0, "apart", 0, 1 << p).due(-2, "apart", 0, 15 - (1 << p)).due(0, "apart", 15, 0);
        }
        Run.sentence("15: Else the least n above 0");
        for (int a = 0; a < 3; a++) {
            factOfEvenWorlds(a).due(1, "apart", 0, 1).due(1, "apart", 1, 0).due(1, "apart", 3, 0).due(1, "apart", 0, 3)
                .due(-2, "apart", 1, 3).due(0, "apart", 2, 3).due(1, "apart", 12, 15).due(1, "apart", 15, 12);
        }
        Run.sentence("15: a world that is at most n - 1 apart from every world in the other one's class");
        Run x = chainToFactIn(15);
        for (int w = 0; w < 15; w++) {
            x.due(14 - w, "apart", w, w + 1).due(0, "apart", w, 15);
        }
        x.due(13, "apart", 0, 2).due(1, "apart", 0, 14);
        Run back = chainToFactIn(0);
        for (int w = 1; w < 15; w++) {
            back.due(w, "apart", w, w + 1).due(0, "apart", w, 0).due(w, "apart", 15, w);
        }
        // With world 4 away nothing parts 0 .. 3; the others are as before.
        onlyFactIn(15, chain(0, 1).with(Run.exactly(4) + " not", "say")).due(10, "apart", 3, 5).due(10, "apart", 5, 3)
            .due(1, "apart", 0, 14).due(9, "apart", 5, 6).due(-2, "apart", 2, 3).due(-2, "apart", 0, 3).due(12, "kinds");
        for (int a = 0; a < 3; a++) {
            // Each world has, in the other class, one with the same facts.
            fresh().with("p0", "learn", a).with(NEVER, "turn", 0).due(-2, "apart", 0, 1).due(-2, "apart", 15, 14);
        }
        Run.sentence("15: -2 if there is no such n (and their facts do not differ): then they are ALIKE");
        Run none = fresh();
        for (int p = 0; p < 4; p++) {
            none.with(NEVER, "turn", p);
        }
        none.due(-2, "apart", 0, 15).due(-2, "apart", 7, 8);
        Run alike = chain(0, 1);
        for (int p = 0; p < 4; p++) {
            alike.with(ALWAYS, "turn", p);
        }
        alike.due(-2, "apart", 0, 15).due(-2, "apart", 14, 15).due(-2, "apart", 0, 1);
        Run.sentence("15: -1 if w or v is no world that is there");
        for (int w : Run.outside(0, 15)) {
            fresh().due(-1, "apart", w, 0).due(-1, "apart", 15, w).due(-1, "apart", w, w);
        }
        middle().due(-1, "apart", 3, 4).due(-1, "apart", 4, 3).due(-1, "apart", 3, 3).due(-1, "apart", 0, 15)
            .due(-1, "apart", 12, 11).due(-1, "apart", 11, 12).due(0, "apart", 4, 11).due(-2, "apart", 4, 4);
        // A world that is not there parts no others.
        chainToFactIn(15).with("p0 not", "say").due(-2, "apart", 0, 14).due(-2, "apart", 13, 14).due(-1, "apart", 14, 15);
        Run.sentence("15: (The distance is the same both ways; a world is alike to itself.)");
        for (int w = 0; w < 16; w++) {
            fresh().due(-2, "apart", w, w);
            allTold().due(-2, "apart", w, w);
            Run y = chainToFactIn(15);
            for (int v = 0; v < w; v++) {
                y.due(15 - w, "apart", v, w).due(15 - w, "apart", w, v);
            }
            Run z = chainToFactIn(0);
            for (int v = w + 1; v < 16; v++) {
                z.due(w, "apart", v, w).due(w, "apart", w, v);
            }
            y.due(-2, "apart", w, w);
        }
    }

    private static void kinds() {
        Run.sentence("16: The greatest number of worlds that can be chosen so that no two of them are alike.");
        fresh().due(16, "kinds");
        chainToFactIn(15).due(16, "kinds").with("p0 not", "say").due(1, "kinds");
        for (int w = 0; w < 16; w++) {
            onlyWorld(w).due(1, "kinds");
        }
        Run x = fresh();
        for (int p = 0; p < 4; p++) {
            x.with(NEVER, "turn", p).due(8 >> p, "kinds");
        }
        middle().due(8, "kinds").with(NEVER, "turn", 0).due(4, "kinds").with("p2 not", "turn", 3).due(4, "kinds")
            .with(NEVER, "turn", 3).due(4, "kinds").with(NEVER, "turn", 2).due(2, "kinds");
        fresh().with(Run.exactly(15) + " not", "say").due(15, "kinds").with("p3 not", "say").due(8, "kinds");
        // 4 even ones with fact 1; without it 4 even and 4 odd ones, 1 apart.
        factOfEvenWorlds(2).due(12, "kinds");
    }

    private static void needed() {
        Run.sentence("17: so that then agent a knows fact p or knows that it is not so: none need be said");
        for (int a = 0; a < 3; a++) {
            for (int p = 0; p < 4; p++) {
                fresh().with("p" + p, "learn", a).due(0, "needed", a, p).actual(15).due(0, "needed", a, p);
                onlyWorld(0).due(0, "needed", a, p);
                onlyWorld(15).due(0, "needed", a, p);
                fresh().with(ALWAYS, "turn", p).due(0, "needed", a, p).with(NEVER, "turn", p).due(0, "needed", a, p);
            }
        }
        Run.sentence("17: The least number of facts other than p that have to be said");
        for (int p = 0; p < 4; p++) {
            int q = (p + 1) % 4;
            int r = (p + 2) % 4;
            int s = (p + 3) % 4;
            for (int a = 0; a < 3; a++) {
                fresh().with("p" + p + " p" + q + " iff", "learn", a).due(1, "needed", a, p).due(1, "needed", a, q);
                fresh().with("p" + p + " p" + q + " iff p" + r + " iff", "learn", a).due(2, "needed", a, p).due(-2, "needed", a, s);
                fresh().with("p" + p + " p" + q + " iff p" + r + " iff p" + s + " iff", "learn", a).due(3, "needed", a, p);
                // One fact does it, and two others do it too.
                fresh().with("p" + p + " p" + q + " iff", "learn", a).with("p" + p + " p" + r + " iff p" + s + " iff", "learn", a)
                    .due(1, "needed", a, p);
                // All three are known to the agent, so saying them tells it nothing.
                fresh().with("p" + q, "learn", a).with("p" + r, "learn", a).with("p" + s, "learn", a).due(-2, "needed", a, p);
            }
        }
        Run.sentence("17: as they are in the actual world");
        Run both = fresh().with("p0 p1 p2 and p3 and iff", "say");
        both.due(1, "needed", 0, 0).due(-2, "needed", 0, 3).actual(15).due(3, "needed", 0, 0).due(1, "needed", 0, 3);
        fresh().actual(1).with("p0 p1 or", "say").due(1, "needed", 2, 0).due(-2, "needed", 2, 1)
            .actual(3).due(-2, "needed", 2, 0).due(-2, "needed", 2, 1).actual(2).due(-2, "needed", 2, 0).due(1, "needed", 2, 1);
        Run.sentence("17: then agent a knows, in the actual world");
        for (int a = 0; a < 3; a++) {
            fresh().with("p0 p1 and", "learn", a).due(-2, "needed", a, 0).actual(3).due(0, "needed", a, 0)
                .actual(2).due(1, "needed", a, 0).due(-2, "needed", a, 1).actual(15).due(0, "needed", a, 1);
        }
        Run.sentence("17: -2 if that can't be reached");
        for (int a = 0; a < 3; a++) {
            for (int p = 0; p < 4; p++) {
                fresh().due(-2, "needed", a, p);
                fresh().with("p" + p, "learn", (a + 1) % 3).due(-2, "needed", a, p).due(0, "needed", (a + 1) % 3, p);
            }
        }
        Run.sentence("17: a is not 0 to 2: -1");
        for (int a : Run.outside(0, 2)) {
            fresh().due(-1, "needed", a, 0).due(-1, "needed", a, 3);
            onlyWorld(0).due(-1, "needed", a, 0);
        }
        Run.sentence("17: or p is not 0 to 3: -1");
        for (int p : Run.outside(0, 3)) {
            fresh().due(-1, "needed", 0, p).due(-1, "needed", 2, p);
            onlyWorld(0).due(-1, "needed", 0, p).due(-1, "needed", p, p);
        }
    }

    public static void main(String[] args) {
        manyCalls();
        worldsOfTheTerms();
        setsOfAgents();
        plainFormulas();
        formulasOfAgents();
        formulasOfAfter();
        orderOfTests();
        newObject();
        restart();
        actual();
        tokenArguments();
        tokenAndTheStack();
        tokenAndTheSize();
        drop();
        say();
        learn();
        turn();
        worldsAndFacts();
        classesAndTogether();
        holdsAndWhere();
        apart();
        kinds();
        needed();
        Run.end();
    }
}
