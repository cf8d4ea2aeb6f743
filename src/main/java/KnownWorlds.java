/**
 * What three agents know about four facts, how that changes when things are
 * said or looked at, and formulas about it.
 *
 * A set of worlds is held as a number that has the binary digit w for world w.
 */
public final class KnownWorlds {
    private static final int WORLDS = 16;
    private static final int EVERY_WORLD = 0xFFFF;
    private static final int FACTS = 4;
    private static final int AGENTS = 3;
    private static final int GREATEST_GROUP = 7;
    private static final int CELLS = AGENTS * WORLDS;

    private static final int MOST_FORMULAS = 6;
    private static final int MOST_TOKENS = 24;
    private static final int TOKEN_ROOM = MOST_FORMULAS * MOST_TOKENS;

    private static final int FACT = 0;
    private static final int NOT = 1;
    private static final int AND = 2;
    private static final int OR = 3;
    private static final int IFF = 4;
    private static final int KNOWS = 5;
    private static final int ALL = 6;
    private static final int COMMON = 7;
    private static final int TOGETHER = 8;
    private static final int AFTER = 9;

    private int worldsThere;
    private int actualWorld;
    private final int[] factSet = new int[FACTS];
    // The class of agent a in which world w is stands at a * WORLDS + w. It
    // may still name worlds that were taken away since: readers mask them.
    private final int[] cell = new int[CELLS];

    // All formulas of the stack stand one behind the other, each with what it
    // takes ahead of it. So a new token joins the formulas it takes without
    // any moving, and the sizes alone tell where each formula begins.
    private final int[] tokenKind = new int[TOKEN_ROOM];
    private final int[] tokenArgument = new int[TOKEN_ROOM];
    private final int[] formulaSize = new int[TOKEN_ROOM];
    private int tokenCount;
    private int formulaCount;

    // Room for working things out; nothing here lasts from call to call.
    private final int[] holdSet = new int[TOKEN_ROOM];
    private final int[] apartSet = new int[WORLDS];
    private final int[] nextApartSet = new int[WORLDS];

    public KnownWorlds() {
        tokenCount = 0;
        formulaCount = 0;
        setBeginning();
    }

    public void restart() {
        setBeginning();
    }

    public int actual(int w) {
        if (!isThere(w)) {
            return -1;
        }
        int before = actualWorld;
        actualWorld = w;
        return before;
    }

    public int token(int kind, int a) {
        if (!isToken(kind, a)) {
            return -1;
        }
        int taken = takenBy(kind);
        if (formulaCount < taken) {
            return -2;
        }
        if (taken == 0 && formulaCount == MOST_FORMULAS) {
            return -3;
        }
        int size = 1 + sizeOfTopmost(taken);
        if (size > MOST_TOKENS) {
            return -4;
        }
        tokenKind[tokenCount] = kind;
        tokenArgument[tokenCount] = a;
        formulaSize[tokenCount] = size;
        tokenCount++;
        formulaCount += 1 - taken;
        return formulaCount;
    }

    public int drop() {
        if (formulaCount == 0) {
            return -1;
        }
        tokenCount -= sizeOfTopmost(1);
        formulaCount--;
        return formulaCount;
    }

    public int say() {
        if (formulaCount == 0) {
            return -1;
        }
        int set = topSet();
        if (!isIn(set, actualWorld)) {
            return -2;
        }
        worldsThere = set;
        return countDigits(worldsThere);
    }

    public int learn(int a) {
        if (!isAgent(a)) {
            return -1;
        }
        if (formulaCount == 0) {
            return -2;
        }
        int set = topSet();
        for (int w = 0; w < WORLDS; w++) {
            cell[a * WORLDS + w] &= isIn(set, w) ? set : ~set;
        }
        return countClasses(a);
    }

    public int turn(int p) {
        if (!isFact(p)) {
            return -1;
        }
        if (formulaCount == 0) {
            return -2;
        }
        int set = topSet();
        int changed = (factSet[p] ^ set) & worldsThere;
        factSet[p] = set;
        return countDigits(changed);
    }

    public int worlds() {
        return countDigits(worldsThere);
    }

    public int facts(int w) {
        return isThere(w) ? factsOf(w) : -1;
    }

    public int classes(int a) {
        return isAgent(a) ? countClasses(a) : -1;
    }

    public int together(int a, int w, int v) {
        if (!isAgent(a) || !isThere(w) || !isThere(v)) {
            return -1;
        }
        return isIn(cell[a * WORLDS + w], v) ? 1 : 0;
    }

    public int holds(int w) {
        if (formulaCount == 0 || !isThere(w)) {
            return -1;
        }
        int set = topSet();
        return isIn(set, w) ? 1 : 0;
    }

    public int where() {
        return formulaCount == 0 ? -1 : topSet();
    }

    public int apart(int w, int v) {
        if (!isThere(w) || !isThere(v)) {
            return -1;
        }
        partByFacts();
        // Each step that changes anything makes one more kind of world, so no
        // two of 16 worlds are more than 15 apart.
        for (int n = 0; n < WORLDS; n++) {
            if (isIn(apartSet[w], v)) {
                return n;
            }
            partOneStepMore();
        }
        return -2;
    }

    public int kinds() {
        partByFacts();
        for (int n = 1; n < WORLDS; n++) {
            partOneStepMore();
        }
        // Being alike parts the worlds, so the lowest world of each part is
        // a choice that none can outdo.
        int count = 0;
        for (int w = 0; w < WORLDS; w++) {
            if (isThere(w) && isLowestIn(worldsThere & ~apartSet[w], w)) {
                count++;
            }
        }
        return count;
    }

    public int needed(int a, int p) {
        if (!isAgent(a) || !isFact(p)) {
            return -1;
        }
        int least = -2;
        for (int said = 0; said < 1 << FACTS; said++) {
            if (!isIn(said, p) && isSettledBy(said, a, p)) {
                int count = countDigits(said);
                if (least < 0 || count < least) {
                    least = count;
                }
            }
        }
        return least;
    }

    private void setBeginning() {
        worldsThere = EVERY_WORLD;
        actualWorld = 0;
        for (int p = 0; p < FACTS; p++) {
            factSet[p] = 0;
            for (int w = 0; w < WORLDS; w++) {
                if (isIn(w, p)) {
                    factSet[p] |= 1 << w;
                }
            }
        }
        for (int i = 0; i < CELLS; i++) {
            cell[i] = EVERY_WORLD;
        }
    }

    private static boolean isIn(int set, int member) {
        return (set >> member & 1) == 1;
    }

    private static boolean isLowestIn(int set, int w) {
        return (set & ((1 << w) - 1)) == 0;
    }

    private static int countDigits(int set) {
        int count = 0;
        for (int w = 0; w < WORLDS; w++) {
            count += set >> w & 1;
        }
        return count;
    }

    private static boolean isAgent(int a) {
        return a >= 0 && a < AGENTS;
    }

    private static boolean isFact(int p) {
        return p >= 0 && p < FACTS;
    }

    private boolean isThere(int w) {
        return w >= 0 && w < WORLDS && isIn(worldsThere, w);
    }

    private int factsOf(int w) {
        int number = 0;
        for (int p = 0; p < FACTS; p++) {
            number |= (factSet[p] >> w & 1) << p;
        }
        return number;
    }

    private int countClasses(int a) {
        int count = 0;
        for (int w = 0; w < WORLDS; w++) {
            if (isThere(w) && isLowestIn(cell[a * WORLDS + w] & worldsThere, w)) {
                count++;
            }
        }
        return count;
    }

    private static boolean isToken(int kind, int a) {
        switch (kind) {
            case FACT:
                return isFact(a);
            case KNOWS:
                return isAgent(a);
            case ALL:
            case COMMON:
            case TOGETHER:
                return a >= 1 && a <= GREATEST_GROUP;
            case NOT:
            case AND:
            case OR:
            case IFF:
            case AFTER:
                return true;
            default:
                return false;
        }
    }

    private static int takenBy(int kind) {
        switch (kind) {
            case FACT:
                return 0;
            case AND:
            case OR:
            case IFF:
            case AFTER:
                return 2;
            default:
                return 1;
        }
    }

    private int sizeOfTopmost(int formulas) {
        int size = 0;
        for (int i = 0; i < formulas; i++) {
            size += formulaSize[tokenCount - 1 - size];
        }
        return size;
    }

    /** The worlds in which the top holds; the stack must not be empty. */
    private int topSet() {
        for (int at = tokenCount - sizeOfTopmost(1); at < tokenCount; at++) {
            int around = worldsAround(at);
            holdSet[at] = setOfToken(at, around);
        }
        return holdSet[tokenCount - 1];
    }

    /**
     * The worlds with which the token is to be taken. The G of an AFTER is
     * taken with those in which its F holds; F stands ahead of G, so by then
     * its set is known. The first AFTER around a token is the innermost one.
     */
    private int worldsAround(int at) {
        for (int after = at + 1; after < tokenCount; after++) {
            int startOfG = after - formulaSize[after - 1];
            if (tokenKind[after] == AFTER && startOfG <= at) {
                return holdSet[startOfG - 1];
            }
        }
        return worldsThere;
    }

    private int setOfToken(int at, int around) {
        int kind = tokenKind[at];
        int a = tokenArgument[at];
        if (takenBy(kind) == 0) {
            return factSet[a] & around;
        }
        int g = holdSet[at - 1];
        int f = takenBy(kind) == 2 ? holdSet[at - 1 - formulaSize[at - 1]] : g;
        switch (kind) {
            case NOT:
                return around & ~f;
            case AND:
                return f & g;
            case OR:
                return f | g;
            case IFF:
                return around & ~(f ^ g);
            case KNOWS:
                return allKnow(1 << a, f, around);
            case ALL:
                return allKnow(a, f, around);
            case COMMON:
                return commonlyKnown(a, f, around);
            case TOGETHER:
                return knownTogether(a, f, around);
            default:
                return (around & ~f) | g;
        }
    }

    private int allKnow(int group, int set, int around) {
        int known = around;
        for (int a = 0; a < AGENTS; a++) {
            for (int w = 0; w < WORLDS; w++) {
                boolean doubted = (cell[a * WORLDS + w] & around & ~set) != 0;
                if (isIn(group, a) && doubted) {
                    known &= ~(1 << w);
                }
            }
        }
        return known;
    }

    private int commonlyKnown(int group, int set, int around) {
        int known = set;
        // No way between two of 16 worlds needs more than 15 steps.
        for (int step = 1; step < WORLDS; step++) {
            known = allKnow(group, known, around);
        }
        return known;
    }

    private int knownTogether(int group, int set, int around) {
        int known = around;
        for (int w = 0; w < WORLDS; w++) {
            int shared = around;
            for (int a = 0; a < AGENTS; a++) {
                if (isIn(group, a)) {
                    shared &= cell[a * WORLDS + w];
                }
            }
            if ((shared & ~set) != 0) {
                known &= ~(1 << w);
            }
        }
        return known;
    }

    /** Sets for each world that is there those that are 0 apart from it. */
    private void partByFacts() {
        for (int w = 0; w < WORLDS; w++) {
            apartSet[w] = 0;
            for (int p = 0; p < FACTS; p++) {
                apartSet[w] |= isIn(factSet[p], w) ? ~factSet[p] : factSet[p];
            }
            apartSet[w] &= worldsThere;
        }
    }

    /** From the worlds at most n - 1 apart to those at most n apart. */
    private void partOneStepMore() {
        for (int w = 0; w < WORLDS; w++) {
            nextApartSet[w] = apartSet[w];
            for (int v = 0; v < WORLDS; v++) {
                if (isThere(w) && isThere(v) && isPartedByAgent(w, v)) {
                    nextApartSet[w] |= 1 << v;
                }
            }
        }
        for (int w = 0; w < WORLDS; w++) {
            apartSet[w] = nextApartSet[w];
        }
    }

    private boolean isPartedByAgent(int w, int v) {
        for (int a = 0; a < AGENTS; a++) {
            int classOfW = cell[a * WORLDS + w] & worldsThere;
            int classOfV = cell[a * WORLDS + v] & worldsThere;
            if (hasWorldApartFromAll(classOfW, classOfV)
                    || hasWorldApartFromAll(classOfV, classOfW)) {
                return true;
            }
        }
        return false;
    }

    private boolean hasWorldApartFromAll(int set, int others) {
        for (int w = 0; w < WORLDS; w++) {
            if (isIn(set, w) && (others & ~apartSet[w]) == 0) {
                return true;
            }
        }
        return false;
    }

    /** Whether agent a can tell fact p once the facts of the set were said. */
    private boolean isSettledBy(int said, int a, int p) {
        int possible = cell[a * WORLDS + actualWorld] & worldsThere;
        for (int q = 0; q < FACTS; q++) {
            if (isIn(said, q)) {
                possible &= isIn(factSet[q], actualWorld) ? factSet[q] : ~factSet[q];
            }
        }
        int withFact = possible & factSet[p];
        return withFact == 0 || withFact == possible;
    }
}
