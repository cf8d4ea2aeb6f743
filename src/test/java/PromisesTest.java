// For each promise of the document: ordinary inputs, the edges that the
// document names, and wrong inputs, with answers worked out by hand.
public final class PromisesTest {
    private static final int FACT = 0;
    private static final int NOT = 1;
    private static final int AND = 2;
    private static final int OR = 3;
    private static final int IFF = 4;
    private static final int KNOWS = 5;
    private static final int ALL = 6;
    private static final int COMMON = 7;
    private static final int TOGETHER = 8;
    private static final int AFTER = 9;

    // The worlds in which a fact is so, in the beginning.
    private static final int P0 = 0xAAAA;
    private static final int P1 = 0xCCCC;
    private static final int P2 = 0xF0F0;
    private static final int P3 = 0xFF00;
    private static final int EVERY = 0xFFFF;

    private static final int[] FAR_OFF = {Integer.MIN_VALUE, -65536, -32, -17, -16, -2, -1,
        16, 17, 31, 32, 33, 64, 65536, Integer.MAX_VALUE};

    private static int wrong = 0;

    private static void due(String what, int got, int want) {
        if (got != want) {
            wrong++;
            System.out.println(what + " answered " + got + ", due is " + want);
        }
    }

    /** Puts a formula written in words, each token's argument as its last digit. */
    private static int put(KnownWorlds x, String formula) {
        int answer = 0;
        for (String word : formula.trim().split("\\s+")) {
            answer = putWord(x, word);
            if (answer < 1) {
                wrong++;
                System.out.println("'" + word + "' of '" + formula + "' was refused with " + answer);
            }
        }
        return answer;
    }

    private static int putWord(KnownWorlds x, String word) {
        int digit = word.charAt(word.length() - 1) - '0';
        switch (word.replaceAll("[0-9]", "")) {
            case "p": return x.token(FACT, digit);
            case "not": return x.token(NOT, 0);
            case "and": return x.token(AND, 0);
            case "or": return x.token(OR, 0);
            case "iff": return x.token(IFF, 0);
            case "k": return x.token(KNOWS, digit);
            case "all": return x.token(ALL, digit);
            case "com": return x.token(COMMON, digit);
            case "tog": return x.token(TOGETHER, digit);
            case "after": return x.token(AFTER, 0);
            default: throw new IllegalArgumentException(word);
        }
    }

    private static void dueWhere(KnownWorlds x, String formula, int want) {
        put(x, formula);
        due("where() for " + formula, x.where(), want);
        x.drop();
    }

    private static void learn(KnownWorlds x, int a, String formula) {
        put(x, formula);
        x.learn(a);
        x.drop();
    }

    private static int turn(KnownWorlds x, int p, String formula) {
        put(x, formula);
        int changed = x.turn(p);
        x.drop();
        return changed;
    }

    private static int say(KnownWorlds x, String formula) {
        put(x, formula);
        int left = x.say();
        x.drop();
        return left;
    }

    private static void dueBeginning(String when, KnownWorlds x) {
        due(when + " worlds()", x.worlds(), 16);
        due(when + " kinds()", x.kinds(), 16);
        for (int w = 0; w < 16; w++) {
            due(when + " facts(" + w + ")", x.facts(w), w);
        }
        for (int a = 0; a < 3; a++) {
            due(when + " classes(" + a + ")", x.classes(a), 1);
            for (int w = 0; w < 16; w++) {
                due(when + " together(" + a + ", " + w + ", " + (15 - w) + ")", x.together(a, w, 15 - w), 1);
            }
        }
        due(when + " actual(0)", x.actual(0), 0);
    }

    // Agent 0 can't tell 2k from 2k + 1, agent 1 can't tell 2k - 1 from 2k:
    // a chain from world 0 to world 15.
    private static KnownWorlds chain() {
        KnownWorlds x = new KnownWorlds();
        learn(x, 0, "p1");
        learn(x, 0, "p2");
        learn(x, 0, "p3");
        learn(x, 1, "p0 p1 iff");
        learn(x, 1, "p0 p1 and p2 iff");
        learn(x, 1, "p0 p1 and p2 and p3 iff");
        learn(x, 1, "p0 p1 and p2 and p3 and");
        return x;
    }

    private static void newObject() {
        KnownWorlds x = new KnownWorlds();
        due("1: drop() on a new object", x.drop(), -1);
        due("1: where() on a new object", x.where(), -1);
        dueBeginning("1: new object,", x);
        KnownWorlds y = new KnownWorlds();
        put(y, "p0 not");
        y.say();
        due("1: another object is not touched, worlds()", x.worlds(), 16);
        due("1: another object is not touched, where()", x.where(), -1);
    }

    private static void restart() {
        KnownWorlds x = new KnownWorlds();
        x.restart();
        dueBeginning("2: restart of a new object,", x);
        due("2: drop() after it", x.drop(), -1);
        put(x, "p3");
        put(x, "p0 p1 or");
        x.actual(3);
        x.learn(0);
        x.learn(2);
        x.turn(2);
        x.say();
        due("2: worlds() ahead of restart", x.worlds(), 12);
        x.restart();
        due("2: actual(9) after restart", x.actual(9), 0);
        due("2: where() after restart", x.where(), P0 | P1);
        x.actual(0);
        dueBeginning("2: restart,", x);
        due("2: drop() after restart", x.drop(), 1);
        due("2: where() of the formula under it", x.where(), P3);
        due("2: drop() of the last", x.drop(), 0);
    }

    private static void actual() {
        KnownWorlds x = new KnownWorlds();
        due("3: actual(15)", x.actual(15), 0);
        due("3: actual(15) again", x.actual(15), 15);
        due("3: actual(1)", x.actual(1), 15);
        for (int w : FAR_OFF) {
            due("3: actual(" + w + ")", x.actual(w), -1);
        }
        due("3: actual(3) after refused calls", x.actual(3), 1);
        due("3: saying p0", say(x, "p0"), 8);
        due("3: actual of a world that is gone", x.actual(2), -1);
        due("3: actual(5)", x.actual(5), 3);
        put(x, "p1");
        due("3: say() looks at the new actual world", x.say(), -2);
        due("3: actual(7)", x.actual(7), 5);
        due("3: say() in world 7", x.say(), 4);
    }

    private static void tokenArguments() {
        KnownWorlds x = new KnownWorlds();
        for (int kind : FAR_OFF) {
            due("4: token(" + kind + ", 1)", x.token(kind, 1), -1);
        }
        due("4: token(10, 1)", x.token(10, 1), -1);
        due("4: FACT -1", x.token(FACT, -1), -1);
        due("4: FACT 4", x.token(FACT, 4), -1);
        for (int p = 0; p < 4; p++) {
            due("4: FACT " + p, x.token(FACT, p), 1);
            x.drop();
        }
        due("4: KNOWS 3 comes ahead of the empty stack", x.token(KNOWS, 3), -1);
        due("4: KNOWS -1", x.token(KNOWS, -1), -1);
        for (int a = 0; a < 3; a++) {
            due("4: KNOWS " + a + " on the empty stack", x.token(KNOWS, a), -2);
        }
        for (int kind = ALL; kind <= TOGETHER; kind++) {
            due("4: group 0 of " + kind, x.token(kind, 0), -1);
            due("4: group 8 of " + kind, x.token(kind, 8), -1);
            due("4: group -1 of " + kind, x.token(kind, -1), -1);
            due("4: group 1 of " + kind + " on the empty stack", x.token(kind, 1), -2);
            due("4: group 7 of " + kind + " on the empty stack", x.token(kind, 7), -2);
        }
        for (int kind : new int[] {NOT, AND, OR, IFF, AFTER}) {
            due("4: " + kind + " on the empty stack", x.token(kind, Integer.MIN_VALUE), -2);
        }
        put(x, "p2");
        for (int kind : new int[] {AND, OR, IFF, AFTER}) {
            due("4: " + kind + " on one formula", x.token(kind, 99), -2);
        }
        due("4: where() after refused tokens", x.where(), P2);
        due("4: NOT does not look at a", x.token(NOT, -77), 1);
        due("4: where() of NOT", x.where(), EVERY & ~P2);
        for (int kind : new int[] {AND, OR, IFF, AFTER}) {
            put(x, "p1");
            due("4: " + kind + " does not look at a", x.token(kind, 1000), 1);
        }
    }

    private static void tokenRoom() {
        KnownWorlds x = new KnownWorlds();
        for (int i = 1; i <= 6; i++) {
            due("4: FACT number " + i, x.token(FACT, i % 4), i);
        }
        due("4: a seventh FACT", x.token(FACT, 0), -3);
        due("4: a wrong FACT on the full stack", x.token(FACT, 4), -1);
        due("4: NOT on the full stack", x.token(NOT, 0), 6);
        due("4: where() on the full stack", x.where(), EVERY & ~P2);
        due("4: AND on the full stack", x.token(AND, 0), 5);
        due("4: where() of p1 and not p2", x.where(), P1 & ~P2);
        due("4: FACT again", x.token(FACT, 0), 6);

        KnownWorlds y = new KnownWorlds();
        for (int i = 1; i <= 6; i++) {
            y.token(FACT, i % 4);
            for (int n = 2; n <= 24; n++) {
                due("4: NOT as token " + n + " of formula " + i, y.token(NOT, 0), i);
            }
            due("4: NOT as token 25", y.token(NOT, 0), -4);
            due("4: COMMON as token 25", y.token(COMMON, 7), -4);
            due("4: a wrong KNOWS as token 25", y.token(KNOWS, 3), -1);
        }
        due("4: FACT on a stack full of full formulas", y.token(FACT, 0), -3);
        due("4: OR of two full formulas", y.token(OR, 0), -4);
        int[] sets = {P1, P2, P3, P0, P1, P2};
        for (int i = 6; i >= 1; i--) {
            due("4: where() of full formula " + i, y.where(), EVERY & ~sets[i - 1]);
            due("4: drop() of full formula " + i, y.drop(), i - 1);
        }
    }

    private static void tokenSizes() {
        KnownWorlds x = new KnownWorlds();
        putLong(x, 0, 12);
        putLong(x, 1, 12);
        for (int kind : new int[] {AND, OR, IFF, AFTER}) {
            due("4: " + kind + " of 12 and 12 tokens", x.token(kind, 0), -4);
        }
        x.drop();
        putLong(x, 1, 11);
        due("4: AND of 12 and 11 tokens", x.token(AND, 0), 1);
        due("4: where() of it", x.where(), P1 & ~P0);
        due("4: NOT of 24 tokens", x.token(NOT, 0), -4);
        due("4: FACT beside 24 tokens", x.token(FACT, 3), 2);
        due("4: OR of 24 tokens and 1", x.token(OR, 0), -4);
        due("4: where() after the refused OR", x.where(), P3);
        due("4: drop() after the refused OR", x.drop(), 1);
        due("4: where() of the 24 tokens", x.where(), P1 & ~P0);
        x.drop();
        putLong(x, 2, 22);
        put(x, "p3");
        due("4: IFF of 22 tokens and 1", x.token(IFF, 0), 1);
        due("4: where() of the IFF", x.where(), P2 ^ P3);
    }

    /** A fact under as many NOTs as give the size. */
    private static void putLong(KnownWorlds x, int p, int size) {
        x.token(FACT, p);
        for (int n = 2; n <= size; n++) {
            x.token(NOT, 0);
        }
    }

    private static void formulasWithoutAgents() {
        KnownWorlds x = new KnownWorlds();
        dueWhere(x, "p0", P0);
        dueWhere(x, "p3", P3);
        dueWhere(x, "p1 not", EVERY & ~P1);
        dueWhere(x, "p0 p1 and", P0 & P1);
        dueWhere(x, "p0 p1 or", P0 | P1);
        dueWhere(x, "p0 p1 iff", EVERY & ~(P0 ^ P1));
        dueWhere(x, "p0 p1 p2 or and", P0 & (P1 | P2));
        dueWhere(x, "p0 p1 or p2 and", (P0 | P1) & P2);
        say(x, "p0 not p1 not or");
        dueWhere(x, "p1 not", 0x3333);
        dueWhere(x, "p0 p1 iff", 0x1111);
        dueWhere(x, "p0 not p1 not or", 0x7777);
    }

    private static void formulasWithAgents() {
        KnownWorlds x = new KnownWorlds();
        dueWhere(x, "p0 k0", 0);
        dueWhere(x, "p0 p0 not or k0", EVERY);
        learn(x, 0, "p0");
        learn(x, 1, "p1");
        learn(x, 2, "p0 p1 and");
        dueWhere(x, "p0 k0", P0);
        dueWhere(x, "p0 not k0", EVERY & ~P0);
        dueWhere(x, "p0 k1", 0);
        dueWhere(x, "p0 k2", P0 & P1);
        dueWhere(x, "p0 p1 or k0", P0);
        dueWhere(x, "p0 p1 or all1", P0);
        dueWhere(x, "p0 p1 or all2", P1);
        dueWhere(x, "p0 p1 or all4", P0 & P1);
        dueWhere(x, "p0 p1 or all3", P0 & P1);
        dueWhere(x, "p0 p1 or all6", P0 & P1);
        dueWhere(x, "p0 p1 or all3 k0", 0);
        dueWhere(x, "p0 com1", P0);
        dueWhere(x, "p0 p1 or com3", 0);
        dueWhere(x, "p0 com5", 0);
        dueWhere(x, "p0 p1 and com4", P0 & P1);
        dueWhere(x, "p0 tog1", P0);
        dueWhere(x, "p0 p1 and tog3", P0 & P1);
        dueWhere(x, "p0 p1 and tog1", 0);
        dueWhere(x, "p0 p1 iff tog3", EVERY & ~(P0 ^ P1));
        dueWhere(x, "p0 tog6", P0 & P1);
        dueWhere(x, "p0 not tog6", P1 & ~P0);
        dueWhere(x, "p0 p1 p2 and or tog7", P0);
        dueWhere(x, "p2 tog7", 0);
    }

    private static void formulasOnTheChain() {
        KnownWorlds x = chain();
        due("7: classes of agent 0 on the chain", x.classes(0), 8);
        due("7: classes of agent 1 on the chain", x.classes(1), 9);
        String notLast = "p0 p1 and p2 and p3 and not";
        dueWhere(x, notLast + " all3", 0x3FFF);
        dueWhere(x, notLast + " all3 all3", 0x1FFF);
        dueWhere(x, notLast + " com1", 0x3FFF);
        dueWhere(x, notLast + " com2", 0x7FFF);
        dueWhere(x, notLast + " com3", 0);
        dueWhere(x, "p0 p1 or p2 or p3 or com3", 0);
        // With world 8 taken away there is no way from 0 .. 7 to 15.
        dueWhere(x, "p3 p2 p1 or p0 or not and not " + notLast + " com3 after", 0x01FF);
        x.actual(0);
        due("6: saying that it is not world 8", say(x, "p3 p2 p1 or p0 or not and not"), 15);
        dueWhere(x, notLast + " com3", 0x00FF);
        dueWhere(x, notLast + " com7", 0);
        due("11: classes(0) without world 8", x.classes(0), 8);
        due("11: classes(1) without world 8", x.classes(1), 9);
        due("11: classes(2) without world 8", x.classes(2), 1);
    }

    private static void formulasWithAfter() {
        KnownWorlds x = new KnownWorlds();
        dueWhere(x, "p0 p1 after", (EVERY & ~P0) | P1);
        dueWhere(x, "p0 p0 k0 after", EVERY);
        dueWhere(x, "p0 p1 k0 after", EVERY & ~P0);
        dueWhere(x, "p0 p0 not and p1 k0 after", EVERY);
        // What is true and not known is no longer so once it was said.
        String unknown = "p0 p0 k0 not and";
        dueWhere(x, unknown, P0);
        dueWhere(x, unknown + " " + unknown + " after", EVERY & ~P0);
        dueWhere(x, unknown + " p0 k0 after", EVERY);
        // An AFTER in the G of another: both partings count.
        dueWhere(x, "p0 p1 p0 p1 and com7 after after", EVERY);
        dueWhere(x, "p0 p1 p2 k0 after after", EVERY & ~(P0 & P1));
        // The F of the inner one is taken with what the outer one left.
        dueWhere(x, "p0 p0 k0 p1 after after", (EVERY & ~P0) | P1);
        dueWhere(x, "p0 p0 k0 not p1 k1 after after", EVERY);
        // An AFTER in the F of another is taken with all the worlds.
        dueWhere(x, "p0 p1 after p0 p1 not or k0 after", P0 & ~P1);
        dueWhere(x, "p0 p1 after p0 not p1 or k0 after", EVERY);
        // Behind an AFTER the worlds are all there again.
        dueWhere(x, "p0 p0 k0 after p0 k0 and", 0);
        dueWhere(x, "p0 p0 k0 after k1", EVERY);
        dueWhere(x, "p0 p0 not after not", P0);
        dueWhere(x, "p0 p1 p2 and not after", EVERY & ~(P0 & P1 & P2));
        dueWhere(x, "p0 p1 p2 iff after", (EVERY & ~P0) | (EVERY & ~(P1 ^ P2)));
        dueWhere(x, "p0 p0 tog7 after", EVERY);
        dueWhere(x, "p0 p0 all7 after", EVERY);
        due("14: where() changed no worlds", x.worlds(), 16);
        learn(x, 0, "p0 p1 iff");
        dueWhere(x, "p0 p1 k0 after", (EVERY & ~P0) | P1);
        dueWhere(x, "p0 p1 k1 after", EVERY & ~P0);
    }

    private static void drop() {
        KnownWorlds x = new KnownWorlds();
        due("5: drop() on the empty stack", x.drop(), -1);
        put(x, "p0 k1 not");
        put(x, "p1 p2 and");
        put(x, "p3");
        due("5: drop() of three", x.drop(), 2);
        due("5: where() of the second", x.where(), P1 & P2);
        due("5: drop() of two", x.drop(), 1);
        due("5: where() of the first", x.where(), EVERY);
        due("5: drop() of one", x.drop(), 0);
        due("5: drop() of none", x.drop(), -1);
        due("5: FACT after it", x.token(FACT, 2), 1);
        due("5: where() of it", x.where(), P2);
    }

    private static void say() {
        KnownWorlds x = new KnownWorlds();
        due("6: say() on the empty stack", x.say(), -1);
        put(x, "p0");
        due("6: say() of what is not so", x.say(), -2);
        due("6: worlds() after the refused say", x.worlds(), 16);
        x.actual(1);
        due("6: say() of p0", x.say(), 8);
        due("6: where() after it", x.where(), P0);
        due("6: facts of a world that is gone", x.facts(0), -1);
        due("6: say() again", x.say(), 8);
        due("6: the formula stays", x.drop(), 0);
        due("6: saying not p1", say(x, "p1 not"), 4);
        due("6: saying not p2 and not p3", say(x, "p2 not p3 not and"), 1);
        due("6: the actual world stays", x.actual(1), 1);
        due("6: facts(1)", x.facts(1), 1);
        due("6: classes(2) of one world", x.classes(2), 1);
        dueWhere(x, "p0 com7", 2);
        dueWhere(x, "p0 not", 0);
        x.restart();
        x.actual(3);
        put(x, "p0 p0 k0 not and");
        due("6: say() of what is not known", x.say(), 8);
        due("6: where() once it was said", x.where(), 0);
        due("6: say() of it once more", x.say(), -2);
        due("6: worlds() then", x.worlds(), 8);
    }

    private static void learnWhether() {
        KnownWorlds x = new KnownWorlds();
        due("7: learn(3) on the empty stack", x.learn(3), -1);
        due("7: learn(0) on the empty stack", x.learn(0), -2);
        put(x, "p0");
        for (int a : FAR_OFF) {
            due("7: learn(" + a + ")", x.learn(a), -1);
        }
        due("7: learn(3)", x.learn(3), -1);
        due("7: learn(1)", x.learn(1), 2);
        due("7: learn(1) again", x.learn(1), 2);
        due("7: the formula stays", x.where(), P0);
        due("7: classes(0)", x.classes(0), 1);
        due("7: classes(1)", x.classes(1), 2);
        due("7: classes(2)", x.classes(2), 1);
        due("7: together(1, 4, 5)", x.together(1, 4, 5), 0);
        due("7: together(1, 4, 6)", x.together(1, 4, 6), 1);
        due("7: together(1, 5, 7)", x.together(1, 5, 7), 1);
        due("7: together(2, 4, 5)", x.together(2, 4, 5), 1);
        put(x, "p0 p1 or");
        due("7: learn(1) of p0 or p1", x.learn(1), 3);
        due("7: together(1, 0, 2)", x.together(1, 0, 2), 0);
        due("7: together(1, 1, 3)", x.together(1, 1, 3), 1);
        put(x, "p0 k1 p1 k1 or");
        due("7: learn(2) what agent 1 knows", x.learn(2), 2);
        due("7: together(2, 0, 1)", x.together(2, 0, 1), 0);
        due("7: together(2, 1, 2)", x.together(2, 1, 2), 1);
        due("7: worlds()", x.worlds(), 16);
        due("7: drop()", x.drop(), 2);
        x.restart();
        for (int p = 0; p < 4; p++) {
            put(x, "p" + p);
            due("7: learn(0) of fact " + p, x.learn(0), 2 << p);
        }
        x.actual(12);
        due("6: worlds in which the top holds", x.say(), 8);
        due("7: learn(0) with 8 worlds", x.learn(0), 8);
    }

    private static void turn() {
        KnownWorlds x = new KnownWorlds();
        due("8: turn(4) on the empty stack", x.turn(4), -1);
        due("8: turn(0) on the empty stack", x.turn(0), -2);
        put(x, "p1 p2 and");
        for (int p : FAR_OFF) {
            due("8: turn(" + p + ")", x.turn(p), -1);
        }
        due("8: turn(4)", x.turn(4), -1);
        due("8: turn(0)", x.turn(0), 8);
        due("8: facts(6)", x.facts(6), 7);
        due("8: facts(7)", x.facts(7), 7);
        due("8: facts(5)", x.facts(5), 4);
        due("8: facts(1)", x.facts(1), 0);
        due("8: turn(0) again", x.turn(0), 0);
        due("8: the formula stays", x.where(), P1 & P2);
        due("8: the worlds stay", x.worlds(), 16);
        due("8: drop()", x.drop(), 0);
        x.restart();
        put(x, "p0 not");
        due("8: a fact becomes its own opposite", x.turn(0), 16);
        due("8: where() then", x.where(), P0);
        due("8: and back", x.turn(0), 16);
        due("8: where() then again", x.where(), EVERY & ~P0);
        x.say();
        due("8: turn(0) with 8 worlds", x.turn(0), 8);
        due("8: facts(4) then", x.facts(4), 5);
        due("8: turn(0) once more", x.turn(0), 8);
        due("8: turn(3) to what is so in all", x.turn(3), 4);
        due("8: facts(4) after turn(3)", x.facts(4), 12);
        due("8: facts(5) after turn(3)", x.facts(5), -1);
        x.restart();
        x.drop();
        learn(x, 0, "p0");
        put(x, "p0 k0");
        due("8: turn(1) to whether agent 0 knows p0", x.turn(1), 8);
        due("8: facts(2)", x.facts(2), 0);
        due("8: facts(9)", x.facts(9), 11);
        due("8: classes(0) stay", x.classes(0), 2);
        x.restart();
        put(x, "p0 k0 not");
        due("8: all is worked out before anything is changed", x.turn(0), 8);
        due("8: facts(0) after it", x.facts(0), 1);
        due("8: facts(15) after it", x.facts(15), 15);
    }

    private static void worldsAndFacts() {
        KnownWorlds x = new KnownWorlds();
        due("9: worlds()", x.worlds(), 16);
        for (int w : FAR_OFF) {
            due("10: facts(" + w + ")", x.facts(w), -1);
        }
        say(x, "p0 p1 and p2 and p3 and not");
        due("9: worlds() without 15", x.worlds(), 15);
        due("10: facts(15)", x.facts(15), -1);
        due("10: facts(14)", x.facts(14), 14);
        due("10: facts(0)", x.facts(0), 0);
        say(x, "p3 not");
        due("9: worlds() without p3", x.worlds(), 8);
        due("10: facts(8)", x.facts(8), -1);
        due("10: facts(7)", x.facts(7), 7);
    }

    private static void classesAndTogether() {
        KnownWorlds x = new KnownWorlds();
        for (int w : FAR_OFF) {
            due("11: classes(" + w + ")", x.classes(w), -1);
            due("12: together(" + w + ", 0, 0)", x.together(w, 0, 0), -1);
            due("12: together(0, " + w + ", 0)", x.together(0, w, 0), -1);
            due("12: together(0, 0, " + w + ")", x.together(0, 0, w), -1);
        }
        due("11: classes(3)", x.classes(3), -1);
        due("12: together(3, 0, 0)", x.together(3, 0, 0), -1);
        due("12: together(2, 15, 15)", x.together(2, 15, 15), 1);
        learn(x, 2, "p3");
        learn(x, 2, "p2");
        due("11: classes(2)", x.classes(2), 4);
        due("12: together(2, 3, 4)", x.together(2, 3, 4), 0);
        due("12: together(2, 4, 7)", x.together(2, 4, 7), 1);
        due("12: together(2, 7, 4)", x.together(2, 7, 4), 1);
        due("12: together(2, 4, 12)", x.together(2, 4, 12), 0);
        due("12: together(1, 4, 12)", x.together(1, 4, 12), 1);
        say(x, "p2 p3 and not");
        due("11: classes(2) when one class is gone", x.classes(2), 3);
        say(x, "p0 p1 or p3 and not");
        due("11: classes(2) when one class is smaller", x.classes(2), 3);
        due("12: together with a world that is gone", x.together(2, 8, 9), -1);
        due("12: together of a world that is gone", x.together(2, 9, 8), -1);
        due("12: together(2, 8, 8)", x.together(2, 8, 8), 1);
        due("11: classes(0)", x.classes(0), 1);
    }

    private static void holdsAndWhere() {
        KnownWorlds x = new KnownWorlds();
        due("13: holds(0) on the empty stack", x.holds(0), -1);
        due("14: where() on the empty stack", x.where(), -1);
        put(x, "p1");
        for (int w : FAR_OFF) {
            due("13: holds(" + w + ")", x.holds(w), -1);
        }
        due("13: holds(0)", x.holds(0), 0);
        due("13: holds(2)", x.holds(2), 1);
        due("13: holds(15)", x.holds(15), 1);
        put(x, "p0 not");
        due("13: holds(2) of the new top", x.holds(2), 1);
        due("13: holds(15) of the new top", x.holds(15), 0);
        due("14: where() of the new top", x.where(), EVERY & ~P0);
        x.say();
        due("13: holds(15) when it is gone", x.holds(15), -1);
        due("14: where()", x.where(), 0x5555);
        x.drop();
        due("14: where() of p1 then", x.where(), 0x4444);
        due("13: holds(6)", x.holds(6), 1);
        due("13: holds(4)", x.holds(4), 0);
    }

    private static void apart() {
        KnownWorlds x = new KnownWorlds();
        for (int w : FAR_OFF) {
            due("15: apart(" + w + ", 0)", x.apart(w, 0), -1);
            due("15: apart(0, " + w + ")", x.apart(0, w), -1);
        }
        due("15: apart(0, 1)", x.apart(0, 1), 0);
        due("15: apart(8, 8)", x.apart(8, 8), -2);
        learn(x, 1, "p3");
        turn(x, 3, "p0 p0 not and");
        due("15: apart(0, 8), alike but told apart", x.apart(0, 8), -2);
        due("16: kinds() then", x.kinds(), 8);
        say(x, "p0 not");
        due("15: apart(0, 1) when 1 is gone", x.apart(0, 1), -1);
        due("15: apart(1, 0) when 1 is gone", x.apart(1, 0), -1);
        due("15: apart(1, 1) when 1 is gone", x.apart(1, 1), -1);
        due("16: kinds() of 8 worlds", x.kinds(), 4);
        x.restart();
        // In 0 .. 3 only 3 has a fact; agent 2 can tell 0 from the others.
        say(x, "p2 not p3 not and");
        learn(x, 2, "p0 p1 or");
        put(x, "p0 p1 and");
        x.turn(0);
        put(x, "p3");
        x.turn(1);
        due("15: apart(0, 3)", x.apart(0, 3), 0);
        due("15: apart(0, 1)", x.apart(0, 1), 1);
        due("15: apart(2, 0)", x.apart(2, 0), 1);
        due("15: apart(1, 2)", x.apart(1, 2), -2);
        due("16: kinds()", x.kinds(), 3);
    }

    private static void apartOnTheChain() {
        KnownWorlds x = chain();
        due("16: kinds() on the chain", x.kinds(), 16);
        turn(x, 0, "p0 p1 and p2 and p3 and");
        for (int p = 1; p < 4; p++) {
            turn(x, p, "p0 p0 not and");
        }
        due("10: facts(14) on the chain", x.facts(14), 0);
        due("10: facts(15) on the chain", x.facts(15), 1);
        // World v > w is 15 - v steps from the one world with a fact.
        for (int w = 0; w < 16; w++) {
            for (int v = w + 1; v < 16; v++) {
                due("15: apart(" + w + ", " + v + ") on the chain", x.apart(w, v), 15 - v);
                due("15: apart(" + v + ", " + w + ") on the chain", x.apart(v, w), 15 - v);
            }
            due("15: apart(" + w + ", " + w + ") on the chain", x.apart(w, w), -2);
        }
        due("16: kinds() by what is known", x.kinds(), 16);
        turn(x, 0, "p1");
        due("16: kinds() when all facts are the same", x.kinds(), 1);
        due("15: apart(0, 15) when all facts are the same", x.apart(0, 15), -2);
    }

    private static void needed() {
        KnownWorlds x = new KnownWorlds();
        for (int w : FAR_OFF) {
            due("17: needed(" + w + ", 0)", x.needed(w, 0), -1);
            due("17: needed(0, " + w + ")", x.needed(0, w), -1);
        }
        due("17: needed(3, 0)", x.needed(3, 0), -1);
        due("17: needed(0, 4)", x.needed(0, 4), -1);
        due("17: needed(0, 0), nothing helps", x.needed(0, 0), -2);
        learn(x, 0, "p0");
        due("17: needed(0, 0), known that it is not so", x.needed(0, 0), 0);
        due("17: needed(1, 0)", x.needed(1, 0), -2);
        x.actual(1);
        due("17: needed(0, 0), known", x.needed(0, 0), 0);
        x.restart();
        x.actual(1);
        say(x, "p0 p1 or");
        due("17: needed(0, 0) in world 1", x.needed(0, 0), 1);
        due("17: needed(0, 1) in world 1", x.needed(0, 1), -2);
        x.actual(3);
        due("17: needed(0, 0) in world 3", x.needed(0, 0), -2);
        x.actual(2);
        due("17: needed(0, 1) in world 2", x.needed(0, 1), 1);
        due("9: worlds() after needed", x.worlds(), 12);
        x.restart();
        say(x, "p0 p1 p2 and p3 and iff");
        due("17: needed(2, 0) in world 0", x.needed(2, 0), 1);
        due("17: needed(2, 3) in world 0", x.needed(2, 3), -2);
        x.actual(15);
        due("17: needed(2, 0) in world 15", x.needed(2, 0), 3);
        due("17: needed(2, 3) in world 15", x.needed(2, 3), 1);
        learn(x, 2, "p1");
        due("17: needed(2, 0) when p1 is known", x.needed(2, 0), 2);
        due("17: needed(1, 0) for another agent", x.needed(1, 0), 3);
        x.restart();
        x.actual(0);
        learn(x, 1, "p2 p3 iff");
        due("17: needed(1, 3) by one said fact", x.needed(1, 3), 1);
        turn(x, 0, "p2 p1 and");
        due("17: needed(0, 0) in world 0, turned", x.needed(0, 0), 1);
        x.actual(6);
        due("17: needed(0, 0) in world 6, turned", x.needed(0, 0), 2);
        due("17: needed(0, 1) in world 6, turned", x.needed(0, 1), 1);
    }

    public static void main(String[] args) {
        newObject();
        restart();
        actual();
        tokenArguments();
        tokenRoom();
        tokenSizes();
        formulasWithoutAgents();
        formulasWithAgents();
        formulasOnTheChain();
        formulasWithAfter();
        drop();
        say();
        learnWhether();
        turn();
        worldsAndFacts();
        classesAndTogether();
        holdsAndWhere();
        apart();
        apartOnTheChain();
        needed();
        System.out.println(wrong == 0 ? "all answers are as due" : wrong + " answers are not as due");
        if (wrong != 0) {
            System.exit(1);
        }
    }
}
