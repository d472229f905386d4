import java.util.Arrays;

/**
 * Locked versions that are changed as little as may be.
 *
 * Inside, what a name is given or locked to is held as a code: 0 for NONE, else the version and 1,
 * as merge is told it. So NONE is less than every version, and a set of codes is a mask of bits.
 */
public final class LeastChange {
    public static final int NONE = -1;

    private static final int MOST_NAMES = 8;
    private static final int MOST_VERSIONS = 6;
    private static final int MOST_LOCKED = 9;
    private static final int MOST_ROWS = 60;

    private static final int CODES = MOST_VERSIONS + 1;
    private static final int NONE_CODE = 0;
    private static final int NONE_BIT = 1;
    private static final int ALL_CODES = (1 << CODES) - 1;
    private static final int LOCK_BITS = 3;
    private static final int LOCK_MASK = 7;

    private static final int NEED = 0;
    private static final int WANT = 1;
    private static final int FORCE = 2;
    private static final int GROUP = 3;

    private static final int NOT_THERE = -1;
    private static final int NOT_FIT = -2;
    private static final int FULL = -4;
    private static final int NO_CHOICE = -1;
    private static final int TOO_MANY_STEPS = -2;
    private static final int BAD_BOUNDS = -3;
    private static final int NOT_LOCKED = -3;

    private static final long DIGEST_STEP = 1000003L;
    private static final long DIGEST_FACTOR = 2654435761L;
    private static final long DIGEST_MODULUS = 2147483647L;

    private final Rules rules = new Rules();
    private final Search search = new Search(rules);
    private final Found found = new Found();
    private final int[] versions = new int[MOST_NAMES];
    private final int[] locked = new int[MOST_NAMES];
    private final int[] joined = new int[MOST_NAMES];
    private final int[] barred = new int[MOST_NAMES];
    private final int[] rows = new int[MOST_ROWS];
    private int nameCount = 0;
    private int rowCount = 0;

    public LeastChange() {
    }

    public int name(int versions, int locked) {
        if (versions < 1 || versions > MOST_VERSIONS || locked < NONE || locked > MOST_LOCKED) {
            return NOT_FIT;
        }
        if (nameCount >= MOST_NAMES) {
            return FULL;
        }
        int name = nameCount;
        this.versions[name] = versions;
        this.locked[name] = codeOf(locked);
        rules.open(name, versions);
        nameCount++;
        return name;
    }

    public int needs(int name, int version, int other, long set) {
        if (!isName(name) || !isName(other)) {
            return NOT_THERE;
        }
        if (version < 0 || version >= versions[name]) {
            return NOT_FIT;
        }
        if (rowCount >= MOST_ROWS) {
            return FULL;
        }
        rules.tie(name, codeOf(version), other, codesOf(set));
        return addRow(NEED, name, version, other);
    }

    public int want(int name, long set) {
        return addSetRow(WANT, name, codesOf(set));
    }

    public int force(int name, long set) {
        return addSetRow(FORCE, name, codesOf(set) | NONE_BIT);
    }

    public int group(int name, int other) {
        if (!isName(name) || !isName(other)) {
            return NOT_THERE;
        }
        if (name == other) {
            return NOT_FIT;
        }
        if (rowCount >= MOST_ROWS) {
            return FULL;
        }
        for (int code = NONE_CODE + 1; code < CODES; code++) {
            rules.tie(name, code, other, NONE_BIT | 1 << code);
        }
        return addRow(GROUP, name, 0, other);
    }

    public int solve(int most, long steps) {
        if (most < 0 || most > MOST_NAMES || steps < 1) {
            return BAD_BOUNDS;
        }
        boolean any = search.findBest(nameCount, locked, barred);
        boolean near = any && search.changedCount() <= most;
        int tried = near ? search.changedCount() : Math.min(most, nameCount);
        if (waysToTry(tried) > steps) {
            return TOO_MANY_STEPS;
        }
        if (!any) {
            return NO_CHOICE;
        }
        if (!near) {
            search.findFirst(nameCount, locked, barred);
        }
        found.keep(search, nameCount, locked);
        return search.changedCount();
    }

    public int chosen(int name) {
        return isName(name) ? versionOf(found.codes[name]) : NONE;
    }

    public int down(int i) {
        return ithOf(found.down, i);
    }

    public int lock(int i, int what) {
        int name = ithOf(found.given, i);
        if (!isName(name)) {
            return NOT_THERE;
        }
        int version = versionOf(found.codes[name]);
        switch (what) {
            case 0:
                return name;
            case 1:
                return version;
            case 2:
                return (int) (digestOf(name, version) % DIGEST_MODULUS);
            case 3:
                return found.changed >> name & 1;
            default:
                return NOT_FIT;
        }
    }

    public long digest(int name, long d) {
        if (!isName(name)) {
            return NOT_THERE;
        }
        int code = locked[name];
        if (code == NONE_CODE || code > versions[name]) {
            return NOT_LOCKED;
        }
        long own = digestOf(name, versionOf(code));
        if (d == own) {
            barred[name] &= ~(1 << code);
        } else {
            barred[name] |= 1 << code;
        }
        return own;
    }

    public int merge(int lock) {
        if (lock < 0 || lock >> LOCK_BITS * nameCount != 0) {
            return NOT_FIT;
        }
        for (int name = 0; name < nameCount; name++) {
            joined[name] = Math.max(locked[name], lock >> LOCK_BITS * name & LOCK_MASK);
        }
        if (!search.findBest(nameCount, joined, barred)) {
            return 0;
        }
        found.keep(search, nameCount, joined);
        lockToFound();
        return 1;
    }

    public int row(int i) throws ArrayIndexOutOfBoundsException {
        if (i < 0 || i >= rowCount) {
            throw new ArrayIndexOutOfBoundsException("there is no such row");
        }
        return rows[i];
    }

    private boolean isName(int name) {
        return name >= 0 && name < nameCount;
    }

    private int addSetRow(int kind, int name, int codes) {
        if (!isName(name)) {
            return NOT_THERE;
        }
        if (rowCount >= MOST_ROWS) {
            return FULL;
        }
        rules.narrow(name, codes);
        return addRow(kind, name, 0, 0);
    }

    /** Rows are never taken back and only their numbers are asked for: their sets live on in the rules alone. */
    private int addRow(int kind, int name, int version, int other) {
        int row = rowCount;
        rows[row] = ((kind * 8 + name) * 8 + version) * 8 + other;
        rowCount++;
        return row;
    }

    private void lockToFound() {
        for (int name = 0; name < nameCount; name++) {
            if (found.codes[name] != locked[name]) {
                locked[name] = found.codes[name];
                barred[name] = 0;
            }
        }
    }

    private int waysToTry(int most) {
        int all = 1;
        int ways = 1;
        for (int taken = 1; taken <= most; taken++) {
            ways = ways * (nameCount - taken + 1) / taken;
            all += ways;
        }
        return all;
    }

    private static int codeOf(int version) {
        return version + 1;
    }

    private static int versionOf(int code) {
        return code - 1;
    }

    private static int codesOf(long set) {
        return (int) (set << 1) & ALL_CODES & ~NONE_BIT;
    }

    private static long digestOf(int name, int version) {
        return ((name + 1) * DIGEST_STEP + version + 1) * DIGEST_FACTOR;
    }

    private static int ithOf(int names, int i) {
        int before = 0;
        for (int name = 0; name < MOST_NAMES; name++) {
            if ((names >> name & 1) != 0) {
                if (before == i) {
                    return name;
                }
                before++;
            }
        }
        return NONE;
    }

    private static boolean isChanged(int code, int home) {
        return code != home;
    }

    private static boolean isDown(int code, int home) {
        return code != NONE_CODE && code < home;
    }

    /** What the rows allow, worked in as each row comes, so that no search has to go through the rows again. */
    private static final class Rules {
        private final int[] alone = new int[MOST_NAMES];
        private final int[] beside = new int[MOST_NAMES * CODES * MOST_NAMES];

        private Rules() {
            Arrays.fill(beside, ALL_CODES);
        }

        private void open(int name, int versions) {
            alone[name] = (2 << versions) - 1;
        }

        private void narrow(int name, int codes) {
            alone[name] &= codes;
        }

        /** If a name is given a code, the other is given one of these codes; told both ways round. */
        private void tie(int name, int code, int other, int codes) {
            if (name == other) {
                if ((codes >> code & 1) == 0) {
                    narrow(name, ~(1 << code));
                }
                return;
            }
            beside[place(name, code, other)] &= codes;
            for (int otherCode = 0; otherCode < CODES; otherCode++) {
                if ((codes >> otherCode & 1) == 0) {
                    beside[place(other, otherCode, name)] &= ~(1 << code);
                }
            }
        }

        private static int place(int name, int code, int other) {
            return (name * CODES + code) * MOST_NAMES + other;
        }
    }

    /**
     * Goes through the choices in their order, name by name. What a choice costs is CHANGE for each name
     * that is changed and DOWN for each that is down, so that the best is the first with the least cost.
     */
    private static final class Search {
        private static final int CHANGE = 16;
        private static final int DOWN = 1;
        private static final int NO_COST = CHANGE * (MOST_NAMES + 1);

        private final Rules rules;
        private final int[] left = new int[(MOST_NAMES + 1) * MOST_NAMES];
        private final int[] home = new int[MOST_NAMES];
        private final int[] tried = new int[MOST_NAMES];
        private final int[] kept = new int[MOST_NAMES];
        private int names = 0;
        private int keptCost = NO_COST;
        private int costBound = NO_COST;
        private boolean endsWithFirst = false;

        private Search(Rules rules) {
            this.rules = rules;
        }

        private boolean findBest(int names, int[] home, int[] barred) {
            endsWithFirst = false;
            return find(names, home, barred);
        }

        private boolean findFirst(int names, int[] home, int[] barred) {
            endsWithFirst = true;
            return find(names, home, barred);
        }

        private int changedCount() {
            return keptCost / CHANGE;
        }

        private int keptCode(int name) {
            return kept[name];
        }

        private boolean find(int names, int[] home, int[] barred) {
            this.names = names;
            keptCost = NO_COST;
            costBound = NO_COST;
            for (int name = 0; name < names; name++) {
                this.home[name] = home[name];
                left[name] = rules.alone[name] & ~barred[name];
            }
            giveFrom(0, 0);
            return keptCost < NO_COST;
        }

        private void giveFrom(int name, int cost) {
            if (name >= names) {
                keep(cost);
                return;
            }
            int codes = left[name * MOST_NAMES + name];
            int first = home[name];
            int before = 0;
            if ((codes >> first & 1) != 0) {
                give(name, first, cost, before);
                before = 1 << first;
            }
            for (int code = MOST_VERSIONS; code >= NONE_CODE; code--) {
                if (code != first && (codes >> code & 1) != 0) {
                    give(name, code, cost, before);
                    before |= 1 << code;
                }
            }
        }

        private void give(int name, int code, int cost, int before) {
            int now = cost + costOf(code, home[name]);
            if (now + narrowRest(name, code, costBound - now) < costBound && !isNeedless(name, code, before)) {
                tried[name] = code;
                giveFrom(name + 1, now);
            }
        }

        /** A code that came before, costs no more and leaves later names as much beats all choices with this one. */
        private boolean isNeedless(int name, int code, int before) {
            int rivals = isDown(code, home[name]) ? before : before & ~downCodes(home[name]);
            int beside = Rules.place(name, code, 0);
            for (int rival = NONE_CODE; rival < CODES; rival++) {
                if ((rivals >> rival & 1) != 0 && leavesAsMuch(name, Rules.place(name, rival, 0), beside)) {
                    return true;
                }
            }
            return false;
        }

        private boolean leavesAsMuch(int name, int besideRival, int beside) {
            int from = name * MOST_NAMES;
            for (int other = name + 1; other < names; other++) {
                if ((left[from + other] & rules.beside[beside + other] & ~rules.beside[besideRival + other]) != 0) {
                    return false;
                }
            }
            return true;
        }

        private static int downCodes(int home) {
            return (1 << home) - 1 & ~NONE_BIT;
        }

        /** Every later choice comes after this one in the order, so it must cost less to be better. */
        private void keep(int cost) {
            for (int name = 0; name < names; name++) {
                kept[name] = tried[name];
            }
            keptCost = cost;
            costBound = endsWithFirst ? 0 : cost;
        }

        /** Narrows what later names may still be given; answers the least they must cost, or no less than room. */
        private int narrowRest(int name, int code, int room) {
            int from = name * MOST_NAMES;
            int to = from + MOST_NAMES;
            int beside = Rules.place(name, code, 0);
            int cost = 0;
            for (int other = name + 1; other < names && cost < room; other++) {
                int codes = left[from + other] & rules.beside[beside + other];
                left[to + other] = codes;
                cost += leastCostOf(codes, home[other]);
            }
            return cost;
        }

        private static int costOf(int code, int home) {
            return (isChanged(code, home) ? CHANGE : 0) + (isDown(code, home) ? DOWN : 0);
        }

        private static int leastCostOf(int codes, int home) {
            if (codes == 0) {
                return NO_COST;
            }
            if ((codes >> home & 1) != 0) {
                return 0;
            }
            boolean canStayUp = (codes & NONE_BIT) != 0 || codes >> home != 0;
            return canStayUp ? CHANGE : CHANGE + DOWN;
        }
    }

    /** The choice that was found last, with what was changed and down in it as it was found. */
    private static final class Found {
        private final int[] codes = new int[MOST_NAMES];
        private int given = 0;
        private int changed = 0;
        private int down = 0;

        private Found() {
        }

        private void keep(Search search, int names, int[] home) {
            given = 0;
            changed = 0;
            down = 0;
            for (int name = 0; name < names; name++) {
                int code = search.keptCode(name);
                codes[name] = code;
                given |= code != NONE_CODE ? 1 << name : 0;
                changed |= isChanged(code, home[name]) ? 1 << name : 0;
                down |= isDown(code, home[name]) ? 1 << name : 0;
            }
        }
    }
}
