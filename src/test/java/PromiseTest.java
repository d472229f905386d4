/** Each promise of the document by itself: ordinary inputs, the edges that it names, wrong inputs. */
public final class PromiseTest {
    private static final int NONE = LeastChange.NONE;
    private static final long PLENTY = 300;
    private static final int[] FAR = {Integer.MIN_VALUE, -1, 99, Integer.MAX_VALUE};

    private static final Check CHECK = new Check("PromiseTest");

    public static void main(String[] args) {
        newObject();
        nameAnswers();
        nameVersions();
        needsAnswers();
        needsHolds();
        needsOfItself();
        setsOfVersions();
        wantAnswers();
        wantHolds();
        forceAnswers();
        forceHolds();
        groupAnswers();
        groupHolds();
        solveWrongBounds();
        solveNearAndFar();
        solveFewestDown();
        solveOrder();
        solveGone();
        solveSteps();
        solveStepsWithoutChoice();
        solveKeepsFound();
        chosenEdges();
        downAnswers();
        downStays();
        lockAnswers();
        lockStays();
        digestAnswers();
        digestBars();
        mergeAnswers();
        mergeJoins();
        mergeWithoutChoice();
        mergeFindsBest();
        mergeBarred();
        mergeCountsFromJoined();
        mergeAllNames();
        rowAnswers();
        CHECK.end();
    }

    private static void due(String call, long got, long want) {
        CHECK.due(call, got, want);
    }

    private static long bits(int... versions) {
        long set = 0;
        for (int version : versions) {
            set |= 1L << version;
        }
        return set;
    }

    private static LeastChange withNames(int count, int versions, int locked) {
        LeastChange x = new LeastChange();
        for (int i = 0; i < count; i++) {
            due("name " + i, x.name(versions, locked), i);
        }
        return x;
    }

    private static LeastChange withAllRows() {
        LeastChange x = withNames(2, 2, 0);
        for (int i = 0; i < 60; i++) {
            due("want " + i, x.want(0, bits(0)), i);
        }
        return x;
    }

    private static void dueChosen(String when, LeastChange x, int... versions) {
        for (int name = 0; name < versions.length; name++) {
            due(when + ": chosen(" + name + ")", x.chosen(name), versions[name]);
        }
    }

    // promise 1

    private static void newObject() {
        LeastChange other = new LeastChange();
        other.name(2, 0);
        other.want(0, bits(1));
        other.solve(8, PLENTY);
        LeastChange x = new LeastChange();
        due("new: want(0, 1)", x.want(0, 1), -1);
        due("new: chosen(0)", x.chosen(0), NONE);
        due("new: down(0)", x.down(0), NONE);
        due("new: lock(0, 0)", x.lock(0, 0), -1);
        due("new: digest(0, 0)", x.digest(0, 0), -1);
        CHECK.dueNoRow(x, 0);
        due("new: merge(1)", x.merge(1), -2);
        due("new: merge(0)", x.merge(0), 1);
        due("new: solve(8, 1)", x.solve(8, 1), 0);
        due("new: first name", x.name(1, NONE), 0);
        due("new: first row", x.want(0, 1), 0);
    }

    // promise 2

    private static void nameAnswers() {
        LeastChange x = new LeastChange();
        int[][] wrong = {{0, 0}, {7, 0}, {-1, 0}, {1, -2}, {1, 10}, {0, 10},
            {Integer.MAX_VALUE, 0}, {Integer.MIN_VALUE, 0}, {1, Integer.MAX_VALUE}, {1, Integer.MIN_VALUE}};
        for (int[] pair : wrong) {
            due("name(" + pair[0] + ", " + pair[1] + ")", x.name(pair[0], pair[1]), -2);
        }
        due("name(1, -1)", x.name(1, -1), 0);
        due("name(6, 9)", x.name(6, 9), 1);
        for (int i = 2; i < 8; i++) {
            due("name(3, 1)", x.name(3, 1), i);
        }
        due("ninth name", x.name(3, 1), -4);
        due("ninth name, wrong", x.name(7, 1), -2);
        due("ninth name, wrong lock", x.name(3, 10), -2);
    }

    private static void nameVersions() {
        for (int versions = 1; versions <= 6; versions++) {
            LeastChange x = new LeastChange();
            x.name(versions, 9);
            x.want(0, -1L);
            due("greatest of " + versions + " versions is changed", x.solve(8, PLENTY), 1);
            due("greatest of " + versions + " versions", x.chosen(0), versions - 1);
        }
    }

    // promise 3

    private static void needsAnswers() {
        LeastChange x = new LeastChange();
        x.name(3, 0);
        x.name(2, 0);
        for (int far : FAR) {
            due("needs, name " + far, x.needs(far, 0, 0, 1), -1);
            due("needs, other " + far, x.needs(0, 0, far, 1), -1);
            due("needs, other " + far + " and version 9", x.needs(0, 9, far, 1), -1);
            due("needs, version " + far, x.needs(0, far, 1, 1), -2);
        }
        due("needs, name 2", x.needs(2, 0, 0, 1), -1);
        due("needs, other 2", x.needs(0, 0, 2, 1), -1);
        due("needs, version 3 of 3", x.needs(0, 3, 1, 1), -2);
        due("needs, version 2 of 2", x.needs(1, 2, 0, 1), -2);
        due("needs(0, 2, 1, 1)", x.needs(0, 2, 1, 1), 0);
        due("needs(1, 1, 1, 0)", x.needs(1, 1, 1, 0), 1);
        LeastChange full = withAllRows();
        due("needs, full", full.needs(0, 0, 1, 1), -4);
        due("needs, full, no name", full.needs(2, 0, 1, 1), -1);
        due("needs, full, no other", full.needs(0, 0, 2, 1), -1);
        due("needs, full, no version", full.needs(0, 2, 1, 1), -2);
        CHECK.dueNoRow(full, 60);
    }

    private static void needsHolds() {
        LeastChange x = withNames(2, 3, 0);
        x.want(0, bits(0));
        x.needs(0, 0, 1, bits(1));
        due("need: changed", x.solve(8, PLENTY), 1);
        dueChosen("need", x, 0, 1);
        x.needs(0, 1, 1, bits(2));
        due("need of a version not given", x.solve(8, PLENTY), 1);
        dueChosen("need of a version not given", x, 0, 1);
        x.force(1, bits(0));
        due("NONE is no version of a need's set", x.solve(8, PLENTY), -1);

        LeastChange back = withNames(2, 3, 0);
        back.want(0, bits(0));
        back.needs(1, 0, 0, bits(1, 2));
        due("need of an earlier name", back.solve(8, PLENTY), 1);
        dueChosen("need of an earlier name", back, 0, 2);
    }

    private static void needsOfItself() {
        LeastChange x = withNames(1, 3, 1);
        x.needs(0, 1, 0, bits(1, 2));
        due("need of itself that holds", x.solve(8, PLENTY), 0);
        x.needs(0, 1, 0, bits(0, 2));
        due("need of itself that fails", x.solve(8, PLENTY), 1);
        dueChosen("need of itself that fails", x, 2);
    }

    private static void setsOfVersions() {
        long others = ~bits(0, 1, 2, 3, 4, 5);
        LeastChange x = withNames(1, 6, 5);
        x.want(0, others | bits(2));
        due("bits above 5", x.solve(8, PLENTY), 1);
        dueChosen("bits above 5", x, 2);
        LeastChange lonely = withNames(1, 2, 0);
        lonely.want(0, others);
        due("other bits alone", lonely.solve(8, PLENTY), -1);
        LeastChange few = withNames(1, 2, 0);
        few.want(0, bits(2, 3, 4, 5));
        due("versions that aren't there", few.solve(8, PLENTY), -1);
        LeastChange need = withNames(2, 2, 0);
        need.needs(0, 0, 1, others | bits(2, 5));
        due("need of versions that aren't there", need.solve(8, PLENTY), 1);
        dueChosen("need of versions that aren't there", need, 1, 0);
        LeastChange none = withNames(1, 2, 1);
        none.force(0, others | bits(4));
        due("force to versions that aren't there", none.solve(8, PLENTY), 1);
        dueChosen("force to versions that aren't there", none, NONE);
    }

    // promise 4

    private static void wantAnswers() {
        LeastChange x = withNames(1, 2, 0);
        for (int far : FAR) {
            due("want, name " + far, x.want(far, 1), -1);
        }
        due("want, name 1", x.want(1, 1), -1);
        due("want(0, 1)", x.want(0, 1), 0);
        due("want(0, 0)", x.want(0, 0), 1);
        LeastChange full = withAllRows();
        due("want, full", full.want(0, 1), -4);
        due("want, full, no name", full.want(2, 1), -1);
        due("a refused want does nothing", full.want(0, 0), -4);
        due("a refused want does nothing: solve", full.solve(8, PLENTY), 0);
    }

    private static void wantHolds() {
        LeastChange x = withNames(1, 3, NONE);
        x.want(0, bits(0, 1));
        due("want", x.solve(8, PLENTY), 1);
        dueChosen("want", x, 1);
        x.want(0, bits(0, 2));
        due("two wants", x.solve(8, PLENTY), 1);
        dueChosen("two wants", x, 0);
        x.want(0, bits(2));
        due("wants that exclude one another", x.solve(8, PLENTY), -1);
    }

    // promise 5

    private static void forceAnswers() {
        LeastChange x = withNames(1, 2, 0);
        for (int far : FAR) {
            due("force, name " + far, x.force(far, 1), -1);
        }
        due("force, name 1", x.force(1, 1), -1);
        due("force(0, 1)", x.force(0, 1), 0);
        LeastChange full = withAllRows();
        due("force, full", full.force(0, 0), -4);
        due("force, full, no name", full.force(2, 1), -1);
        due("a refused force does nothing", full.solve(8, PLENTY), 0);
    }

    private static void forceHolds() {
        LeastChange x = withNames(1, 3, 0);
        x.force(0, bits(1, 2));
        due("force up", x.solve(8, PLENTY), 1);
        dueChosen("force up", x, 2);
        x.force(0, bits(0));
        due("forces leave NONE", x.solve(8, PLENTY), 1);
        dueChosen("forces leave NONE", x, NONE);
        x.want(0, -1L);
        due("forces and a want", x.solve(8, PLENTY), -1);
        LeastChange none = withNames(1, 3, NONE);
        none.force(0, bits(1));
        due("force lets NONE be", none.solve(8, PLENTY), 0);
    }

    // promise 6

    private static void groupAnswers() {
        LeastChange x = withNames(2, 2, 0);
        for (int far : FAR) {
            due("group, name " + far, x.group(far, 0), -1);
            due("group, other " + far, x.group(0, far), -1);
            due("group, both " + far, x.group(far, far), -1);
        }
        due("group, name 2", x.group(2, 0), -1);
        due("group, other 2", x.group(0, 2), -1);
        due("group(1, 1)", x.group(1, 1), -2);
        due("group(1, 0)", x.group(1, 0), 0);
        LeastChange full = withAllRows();
        due("group, full", full.group(0, 1), -4);
        due("group, full, no other", full.group(0, 2), -1);
        due("group, full, the same", full.group(1, 1), -2);
    }

    private static void groupHolds() {
        LeastChange x = withNames(2, 3, 0);
        x.group(1, 0);
        due("group that holds", x.solve(8, PLENTY), 0);
        x.want(1, bits(2));
        x.want(0, -1L);
        due("group moves together", x.solve(8, PLENTY), 2);
        dueChosen("group moves together", x, 2, 2);

        LeastChange uneven = new LeastChange();
        uneven.name(6, 5);
        uneven.name(2, 1);
        uneven.group(0, 1);
        uneven.want(0, bits(5));
        due("group with a name of fewer versions", uneven.solve(8, PLENTY), 1);
        dueChosen("group with a name of fewer versions", uneven, 5, NONE);
        uneven.want(1, -1L);
        due("group that can't hold", uneven.solve(8, PLENTY), -1);
    }

    // promise 7

    private static void solveWrongBounds() {
        LeastChange x = withNames(1, 2, 0);
        x.want(0, 0);
        due("solve(-1, 1)", x.solve(-1, 1), -3);
        due("solve(9, 1)", x.solve(9, 1), -3);
        due("solve(0, 0)", x.solve(0, 0), -3);
        due("solve(8, -1)", x.solve(8, -1), -3);
        due("solve(MIN, 1)", x.solve(Integer.MIN_VALUE, 1), -3);
        due("solve(MAX, 1)", x.solve(Integer.MAX_VALUE, 1), -3);
        due("solve(0, MIN)", x.solve(0, Long.MIN_VALUE), -3);
        due("solve(8, 1)", x.solve(8, 1), -2);
        due("solve(8, MAX)", x.solve(8, Long.MAX_VALUE), -1);
        due("solve(8, 1 << 32)", x.solve(8, 1L << 32), -1);
    }

    private static LeastChange nearAndFar() {
        LeastChange x = withNames(3, 2, 0);
        x.needs(0, 0, 1, bits(1));
        x.needs(0, 0, 2, bits(1));
        return x;
    }

    private static void solveNearAndFar() {
        LeastChange x = nearAndFar();
        due("none has so few: the first of all", x.solve(0, PLENTY), 2);
        dueChosen("the first of all", x, 0, 1, 1);
        due("one has so few: the best", x.solve(1, PLENTY), 1);
        dueChosen("the best", x, 1, 0, 0);
        due("more than so few: still the best", x.solve(8, PLENTY), 1);
        dueChosen("still the best", x, 1, 0, 0);
    }

    private static void solveFewestDown() {
        LeastChange x = new LeastChange();
        x.name(3, 0);
        x.name(3, 1);
        x.want(0, bits(1, 2));
        x.want(1, bits(0, 2));
        x.needs(0, 2, 1, bits(0));
        due("fewest down", x.solve(8, PLENTY), 2);
        dueChosen("fewest down", x, 1, 2);
        due("fewest down: down(0)", x.down(0), NONE);
        due("first of all does not count down", x.solve(1, PLENTY), 2);
        dueChosen("first of all does not count down", x, 2, 0);
        due("first of all: down(0)", x.down(0), 1);
    }

    private static void solveOrder() {
        LeastChange up = withNames(1, 5, 1);
        up.want(0, ~bits(1));
        up.solve(8, PLENTY);
        dueChosen("the greatest ahead of the rest", up, 4);
        LeastChange none = withNames(1, 5, 4);
        none.force(0, bits(0, 1, 2, 3));
        none.solve(8, PLENTY);
        dueChosen("NONE is not down", none, NONE);
        none.solve(0, PLENTY);
        dueChosen("versions ahead of NONE", none, 3);
        LeastChange fromNone = withNames(1, 5, NONE);
        due("locked to NONE", fromNone.solve(0, 1), 0);
        dueChosen("locked to NONE", fromNone, NONE);
        LeastChange tie = withNames(2, 2, 0);
        tie.needs(0, 0, 1, bits(1));
        due("the first name that differs", tie.solve(8, PLENTY), 1);
        dueChosen("the first name that differs", tie, 0, 1);
    }

    private static void solveGone() {
        LeastChange x = new LeastChange();
        x.name(2, 2);
        x.name(2, 1);
        due("a name that is gone is changed", x.solve(8, PLENTY), 1);
        dueChosen("gone: NONE is not down", x, NONE, 1);
        due("gone: first of all", x.solve(0, PLENTY), 1);
        dueChosen("gone: first of all", x, 1, 1);
        due("gone: down", x.down(0), 0);
        LeastChange nine = new LeastChange();
        nine.name(6, 9);
        nine.want(0, bits(1, 4));
        due("locked to 9", nine.solve(8, PLENTY), 1);
        dueChosen("locked to 9", nine, 4);
        due("locked to 9: down", nine.down(0), 0);
    }

    private static void solveSteps() {
        LeastChange x = nearAndFar();
        due("best has 1: 3 steps", x.solve(8, 3), -2);
        due("best has 1: 4 steps", x.solve(8, 4), 1);
        due("none has 0: 1 step", x.solve(0, 1), 2);
        int[] tries = {1, 9, 37, 93, 163, 219, 247, 255, 256};
        for (int k = 0; k <= 8; k++) {
            LeastChange eight = withNames(8, 2, 0);
            for (int name = 0; name < k; name++) {
                eight.want(name, bits(1));
            }
            due("8 names, " + k + " change", eight.solve(8, tries[k]), k);
            if (k > 0) {
                due("8 names, " + k + " change, too few", eight.solve(8, tries[k] - 1), -2);
                due("8 names, most is less", eight.solve(k - 1, tries[k - 1]), k);
                due("8 names, most is less, too few", eight.solve(k - 1, tries[k - 1] - 1), k == 1 ? -3 : -2);
            }
        }
    }

    private static void solveStepsWithoutChoice() {
        LeastChange x = withNames(3, 2, 0);
        x.want(2, 0);
        due("no choice: solve(8, 7)", x.solve(8, 7), -2);
        due("no choice: solve(8, 8)", x.solve(8, 8), -1);
        due("no choice: solve(3, 7)", x.solve(3, 7), -2);
        due("no choice: solve(2, 7)", x.solve(2, 7), -1);
        due("no choice: solve(0, 1)", x.solve(0, 1), -1);
    }

    private static void solveKeepsFound() {
        LeastChange x = nearAndFar();
        x.solve(1, PLENTY);
        due("keeps: -2", x.solve(8, 1), -2);
        dueChosen("after -2", x, 1, 0, 0);
        due("keeps: -3", x.solve(9, 1), -3);
        dueChosen("after -3", x, 1, 0, 0);
        x.want(0, 0);
        due("keeps: -1", x.solve(8, PLENTY), -1);
        dueChosen("after -1", x, 1, 0, 0);
        due("after -1: lock(0, 3)", x.lock(0, 3), 1);
        due("after -1: lock(1, 3)", x.lock(1, 3), 0);
    }

    // promise 8

    private static void chosenEdges() {
        LeastChange x = withNames(1, 3, 2);
        due("before any: chosen(0)", x.chosen(0), NONE);
        x.solve(8, PLENTY);
        x.name(3, 1);
        due("chosen(0)", x.chosen(0), 2);
        due("a name that wasn't there", x.chosen(1), NONE);
        for (int far : FAR) {
            due("chosen(" + far + ")", x.chosen(far), NONE);
        }
        due("chosen(2)", x.chosen(2), NONE);
        due("chosen(8)", x.chosen(8), NONE);
        x.solve(8, PLENTY);
        due("once it is there", x.chosen(1), 1);
        x.force(0, 0);
        x.solve(8, PLENTY);
        due("chosen NONE", x.chosen(0), NONE);
    }

    // promise 9

    private static void downAnswers() {
        LeastChange x = new LeastChange();
        x.name(3, 2);
        x.name(3, 0);
        x.name(3, 1);
        x.name(3, 1);
        x.want(0, bits(1));
        x.want(1, bits(1));
        x.force(2, 0);
        x.want(3, bits(0));
        due("before any: down(0)", x.down(0), NONE);
        due("down: solve", x.solve(8, PLENTY), 4);
        due("down(0)", x.down(0), 0);
        due("down(1)", x.down(1), 3);
        due("down(2)", x.down(2), NONE);
        for (int far : FAR) {
            due("down(" + far + ")", x.down(far), NONE);
        }
    }

    private static void downStays() {
        LeastChange x = withNames(1, 3, 2);
        x.want(0, bits(1));
        x.solve(8, PLENTY);
        due("down as found", x.down(0), 0);
        x.want(0, 0);
        x.name(2, 0);
        due("down stays", x.down(0), 0);
        due("down stays alone", x.down(1), NONE);
    }

    // promise 10

    private static void lockAnswers() {
        LeastChange x = new LeastChange();
        x.name(2, 0);
        x.name(2, NONE);
        x.name(6, 0);
        x.want(2, bits(5));
        due("before any: lock(0, 0)", x.lock(0, 0), -1);
        x.solve(8, PLENTY);
        int[][] due = {{0, 0, 1972228460, 0}, {2, 5, 995090781, 1}};
        for (int i = 0; i < 2; i++) {
            for (int what = 0; what < 4; what++) {
                due("lock(" + i + ", " + what + ")", x.lock(i, what), due[i][what]);
            }
            due("lock(" + i + ", 4)", x.lock(i, 4), -2);
            for (int far : FAR) {
                due("lock(" + i + ", " + far + ")", x.lock(i, far), -2);
                due("lock(" + far + ", 0)", x.lock(far, 0), -1);
                due("lock(" + far + ", " + far + ")", x.lock(far, far), -1);
            }
        }
        due("lock(2, 0)", x.lock(2, 0), -1);
        due("lock(2, 9)", x.lock(2, 9), -1);
    }

    private static void lockStays() {
        LeastChange x = withNames(1, 2, 0);
        x.want(0, bits(1));
        x.solve(8, PLENTY);
        x.name(2, 1);
        x.want(0, 0);
        due("lock stays: version", x.lock(0, 1), 1);
        due("lock stays: changed", x.lock(0, 3), 1);
        due("lock stays: no more", x.lock(1, 0), -1);
        due("lock stays: first of these", x.lock(1, 4), -1);
    }

    // promise 11

    private static long digestOf(int name, int version) {
        return ((name + 1L) * 1000003L + version + 1L) * 2654435761L;
    }

    private static void digestAnswers() {
        LeastChange x = withNames(7, 6, 5);
        x.name(6, 5);
        for (int name = 0; name < 8; name++) {
            due("digest(" + name + ", right)", x.digest(name, digestOf(name, 5)), digestOf(name, 5));
        }
        due("all digests were right", x.solve(0, 1), 0);
        due("digest of name 7 written out", x.digest(7, 0), 21235565721072830L);
        for (int far : FAR) {
            due("digest(" + far + ", 0)", x.digest(far, 0), -1);
        }
        due("digest(8, 0)", x.digest(8, 0), -1);
        LeastChange other = new LeastChange();
        other.name(3, NONE);
        other.name(3, 3);
        other.name(3, 9);
        due("digest, NONE", other.digest(0, 1), -3);
        due("digest, gone", other.digest(1, 1), -3);
        due("digest, gone to 9", other.digest(2, 1), -3);
    }

    private static void digestBars() {
        LeastChange x = withNames(2, 3, 1);
        x.digest(0, 7);
        due("barred", x.solve(8, PLENTY), 1);
        dueChosen("barred", x, 2, 1);
        x.digest(0, digestOf(0, 1) + 1);
        due("still barred", x.solve(8, PLENTY), 1);
        x.digest(1, digestOf(1, 1));
        due("another name's digest", x.solve(8, PLENTY), 1);
        x.digest(0, digestOf(0, 1));
        due("not any more", x.solve(8, PLENTY), 0);
        dueChosen("not any more", x, 1, 1);
        x.want(0, bits(1));
        x.digest(0, digestOf(0, 1) + (1L << 32));
        due("barred, and wanted", x.solve(8, PLENTY), -1);
        dueChosen("what was found stays", x, 1, 1);
    }

    // promise 12

    private static int lockOf(int... versions) {
        int lock = 0;
        for (int name = 0; name < versions.length; name++) {
            lock |= versions[name] + 1 << 3 * name;
        }
        return lock;
    }

    private static void mergeAnswers() {
        LeastChange x = withNames(2, 3, 1);
        due("merge(-1)", x.merge(-1), -2);
        due("merge(MIN)", x.merge(Integer.MIN_VALUE), -2);
        due("merge(64)", x.merge(64), -2);
        due("merge(MAX)", x.merge(Integer.MAX_VALUE), -2);
        due("merge(63)", x.merge(63), 1);
        x.want(0, 0);
        due("merge(64), no choice", x.merge(64), -2);
        due("merge(63), no choice", x.merge(63), 0);
    }

    private static void mergeJoins() {
        LeastChange x = new LeastChange();
        x.name(4, 1);
        x.name(4, 2);
        x.name(4, NONE);
        x.name(4, NONE);
        x.name(4, 0);
        due("merge", x.merge(lockOf(2, 0, 0, NONE, NONE)), 1);
        dueChosen("the greater one", x, 2, 2, 0, NONE, 0);
        due("locked to it", x.solve(0, 1), 0);
        dueChosen("locked to it", x, 2, 2, 0, NONE, 0);
        for (int i = 0; i < 4; i++) {
            due("nothing is changed", x.lock(i, 3), 0);
        }
    }

    private static void mergeWithoutChoice() {
        LeastChange x = withNames(2, 3, 0);
        x.solve(8, PLENTY);
        x.digest(0, 1);
        x.force(0, bits(0));
        x.want(0, -1L);
        due("merge without a choice", x.merge(lockOf(2, 2)), 0);
        dueChosen("nothing happens", x, 0, 0);
        x.digest(0, digestOf(0, 0));
        due("the locks are the same", x.solve(8, PLENTY), 0);
        dueChosen("the locks are the same", x, 0, 0);
    }

    private static void mergeFindsBest() {
        LeastChange x = withNames(3, 3, 0);
        x.needs(0, 1, 1, bits(2));
        x.needs(0, 1, 2, bits(2));
        due("merge, best", x.merge(lockOf(1, 0, 0)), 1);
        dueChosen("merge, best", x, 2, 0, 0);
        due("merge, best: changed", x.lock(0, 3), 1);
        due("merge, best: is locked", x.solve(0, 1), 0);
    }

    private static void mergeBarred() {
        LeastChange x = withNames(2, 3, 1);
        x.digest(0, 1);
        due("merge, barred", x.merge(0), 1);
        dueChosen("barred ones stay so", x, 2, 1);
        x.want(0, bits(1));
        due("nothing is barred any more", x.solve(8, PLENTY), 1);
        dueChosen("nothing is barred any more", x, 1, 1);
        LeastChange without = withNames(1, 3, 1);
        without.want(0, bits(1));
        without.digest(0, 1);
        due("merge, barred, no choice", without.merge(0), 0);
        due("barred as before", without.solve(8, PLENTY), -1);
    }

    private static void mergeCountsFromJoined() {
        LeastChange x = withNames(2, 3, 0);
        x.want(0, bits(0));
        due("merge, counted", x.merge(lockOf(2, 1)), 1);
        dueChosen("merge, counted", x, 0, 1);
        due("changed from what was joined", x.lock(0, 3), 1);
        due("as joined, so not changed", x.lock(1, 3), 0);
        due("down from what was joined", x.down(0), 0);
        due("down from what was joined, alone", x.down(1), NONE);
        LeastChange gone = withNames(1, 6, NONE);
        due("merge, joined to 6 of 6", gone.merge(lockOf(6)), 1);
        dueChosen("merge, joined to 6 of 6", gone, NONE);
        gone.want(0, -1L);
        due("merge, joined to 6, wanted", gone.merge(lockOf(6)), 1);
        dueChosen("merge, joined to 6, wanted", gone, 5);
        due("merge, joined to 6: down", gone.down(0), 0);
        LeastChange nine = withNames(1, 6, 9);
        nine.want(0, -1L);
        due("merge, gone already", nine.merge(lockOf(3)), 1);
        dueChosen("merge, gone already", nine, 5);
        due("merge, gone already: digest", nine.digest(0, 0), digestOf(0, 5));
    }

    private static void mergeAllNames() {
        LeastChange x = withNames(8, 6, 0);
        due("merge, 8 names, another bit", x.merge(1 << 24), -2);
        due("merge, 8 names", x.merge(lockOf(0, 1, 2, 3, 4, 5, NONE, 5)), 1);
        dueChosen("merge, 8 names", x, 0, 1, 2, 3, 4, 5, 0, 5);
    }

    // promise 13

    private static void rowAnswers() {
        LeastChange x = withNames(8, 6, 0);
        x.needs(7, 5, 6, -1L);
        x.want(7, -1L);
        x.force(6, -1L);
        x.group(5, 7);
        x.needs(0, 0, 0, 0);
        int[] due = {7 * 64 + 5 * 8 + 6, 512 + 7 * 64, 1024 + 6 * 64, 1536 + 5 * 64 + 7, 0};
        for (int i = 0; i < due.length; i++) {
            due("row(" + i + ")", x.row(i), due[i]);
        }
        CHECK.dueNoRow(x, due.length);
        for (int far : FAR) {
            CHECK.dueNoRow(x, far);
        }
        LeastChange full = withAllRows();
        due("row(59)", full.row(59), 512);
        CHECK.dueNoRow(full, 60);
    }
}
