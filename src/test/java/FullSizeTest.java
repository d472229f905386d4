import java.util.Arrays;
import java.util.Random;

/**
 * Promises 7 and 12 at the document's full size, 8 names of 6 versions and up to 60 rows, beside a plain walk
 * through all 7^8 choices. BruteForceTest has runs of all calls, but of fewer choices.
 */
public final class FullSizeTest {
    private static final int NONE = LeastChange.NONE;
    private static final int NAMES = 8;
    private static final int VERSIONS = 6;
    private static final int CASES = 40;
    private static final Check CHECK = new Check("FullSizeTest");

    private static int withoutChoice = 0;
    private static int farFromBest = 0;

    public static void main(String[] args) {
        for (int seed = 0; seed < CASES && CHECK.isClean(); seed++) {
            new FullSizeTest(seed).play();
        }
        CHECK.due("some cases have no right choice", withoutChoice > 0 ? 1 : 0, 1);
        CHECK.due("in many the first of all is not the best", farFromBest > CASES / 4 ? 1 : 0, 1);
        CHECK.end();
    }

    private record Row(int kind, int name, int version, int other, long set) {
    }

    private final Random random;
    private final String told;
    private final LeastChange x = new LeastChange();
    private final int[] locked = new int[NAMES];
    private final boolean[] barred = new boolean[NAMES];
    private final Row[] rows;

    private final int[][] order = new int[NAMES][];
    private final int[] home = new int[NAMES];
    private final int[] choice = new int[NAMES];
    private int[] first = null;
    private int[] best = null;
    private int bestChanged = 0;
    private int bestDown = 0;

    private FullSizeTest(int seed) {
        random = new Random(seed);
        told = "case " + seed + ": ";
        rows = new Row[15 + random.nextInt(46)];
    }

    private void due(String call, long got, long want) {
        CHECK.due(told + call, got, want);
    }

    private void play() {
        addNames();
        addRows();
        barSome();
        walk(locked);
        dueSolved();
        mergeSome();
    }

    private void addNames() {
        for (int name = 0; name < NAMES; name++) {
            locked[name] = random.nextInt(5) == 0 ? random.nextInt(11) - 1 : random.nextInt(VERSIONS);
            due("name", x.name(VERSIONS, locked[name]), name);
        }
    }

    private void addRows() {
        for (int i = 0; i < rows.length; i++) {
            rows[i] = someRow(random.nextInt(20));
            due("row", add(rows[i]), i);
        }
    }

    /** Needs begin at what is locked as often as not: else few of them would touch the best choice. */
    private Row someRow(int kind) {
        int name = random.nextInt(NAMES);
        int other = (name + 1 + random.nextInt(NAMES - 1)) % NAMES;
        int version = random.nextBoolean() ? locked[name] : random.nextInt(VERSIONS);
        long set = random.nextLong() | (random.nextBoolean() ? random.nextLong() : 0);
        if (kind < 2) {
            return new Row(1, name, 0, 0, set | random.nextLong());
        }
        if (kind < 4) {
            return new Row(2, name, 0, 0, set);
        }
        if (kind < 5) {
            return new Row(3, name, 0, other, 0);
        }
        return new Row(0, name, Math.max(0, Math.min(VERSIONS - 1, version)), other, set);
    }

    private int add(Row row) {
        switch (row.kind) {
            case 0:
                return x.needs(row.name, row.version, row.other, row.set);
            case 1:
                return x.want(row.name, row.set);
            case 2:
                return x.force(row.name, row.set);
            default:
                return x.group(row.name, row.other);
        }
    }

    private void barSome() {
        for (int name = 0; name < NAMES; name++) {
            if (locked[name] != NONE && locked[name] < VERSIONS && random.nextInt(5) == 0) {
                barred[name] = true;
                due("digest", x.digest(name, 0), Starts.digestOf(name, locked[name]));
            }
        }
    }

    private void dueSolved() {
        withoutChoice += best == null ? 1 : 0;
        farFromBest += Arrays.equals(first, best) ? 0 : 1;
        for (int most = 0; most <= NAMES; most++) {
            int[] found = best != null && bestChanged <= most ? best : first;
            due("solve(" + most + ", ..)", x.solve(most, Starts.PLENTY), found == null ? -1 : changedIn(found));
            if (found != null) {
                dueFound("solve(" + most + ", ..)", found);
            }
        }
    }

    private void mergeSome() {
        int lock = 0;
        int[] joined = locked.clone();
        for (int name = 0; name < NAMES; name++) {
            int said = random.nextInt(VERSIONS + 2) - 1;
            lock |= said + 1 << 3 * name;
            joined[name] = Math.max(joined[name], said);
        }
        walk(joined);
        due("merge(" + lock + ")", x.merge(lock), best == null ? 0 : 1);
        if (best != null) {
            dueFound("merge(" + lock + ")", best);
            due("solve after the merge", x.solve(0, 1), 0);
        }
    }

    private void dueFound(String call, int[] found) {
        int downs = 0;
        for (int name = 0; name < NAMES; name++) {
            due(call + ": chosen(" + name + ")", x.chosen(name), found[name]);
            if (isDown(found[name], home[name])) {
                due(call + ": down(" + downs + ")", x.down(downs), name);
                downs++;
            }
        }
        due(call + ": down(" + downs + ")", x.down(downs), NONE);
    }

    private int changedIn(int[] found) {
        int changed = 0;
        for (int name = 0; name < NAMES; name++) {
            changed += found[name] != home[name] ? 1 : 0;
        }
        return changed;
    }

    private static boolean isDown(int given, int home) {
        return given != NONE && given < home;
    }

    private void walk(int[] counted) {
        first = null;
        best = null;
        for (int name = 0; name < NAMES; name++) {
            home[name] = counted[name];
            order[name] = orderFrom(counted[name]);
        }
        walkFrom(0, 0, 0);
    }

    private static int[] orderFrom(int home) {
        int[] order = new int[VERSIONS + 1];
        int count = 0;
        if (home < VERSIONS) {
            order[count++] = home;
        }
        for (int version = VERSIONS - 1; version >= NONE; version--) {
            if (version != home) {
                order[count++] = version;
            }
        }
        return order;
    }

    private void walkFrom(int name, int changed, int down) {
        if (name == NAMES) {
            look(changed, down);
            return;
        }
        for (int given : order[name]) {
            choice[name] = given;
            walkFrom(name + 1, changed + (given != home[name] ? 1 : 0), down + (isDown(given, home[name]) ? 1 : 0));
        }
    }

    private void look(int changed, int down) {
        boolean better = best == null || changed < bestChanged || changed == bestChanged && down < bestDown;
        if (!better || !isRight()) {
            return;
        }
        best = choice.clone();
        bestChanged = changed;
        bestDown = down;
        first = first == null ? best : first;
    }

    private boolean isRight() {
        for (int name = 0; name < NAMES; name++) {
            if (barred[name] && choice[name] == locked[name]) {
                return false;
            }
        }
        for (Row row : rows) {
            if (!holds(row)) {
                return false;
            }
        }
        return true;
    }

    private boolean holds(Row row) {
        int given = choice[row.name];
        int other = choice[row.other];
        switch (row.kind) {
            case 0:
                return given != row.version || isIn(other, row.set);
            case 1:
                return isIn(given, row.set);
            case 2:
                return given == NONE || isIn(given, row.set);
            default:
                return given == NONE || other == NONE || given == other;
        }
    }

    private static boolean isIn(int version, long set) {
        return version != NONE && (set >> version & 1) != 0;
    }
}
