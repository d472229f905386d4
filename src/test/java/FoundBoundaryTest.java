/** The sentences of the promises 7 to 10 (what is found) that name a boundary, each by a test of its own. */
public final class FoundBoundaryTest {
    private static final int NONE = LeastChange.NONE;
    private static final Check CHECK = new Check("FoundBoundaryTest");

    public static void main(String[] args) {
        solveMostZeroToEight();
        solveStepsFromOne();
        solveAtMostSoManyChanged();
        solveStepsForTheBest();
        solveStepsForMost();
        solveStepsForFewerNames();
        solveStepsDoNotWrapAround();
        solveTooManyAheadOfNoChoice();
        solveWrongAheadOfAll();
        solveWithoutChoiceKeepsFound();
        solveTooManyKeepsFound();
        solveWrongKeepsFound();
        solveRefusedFindsNothing();
        chosenNone();
        chosenOfLaterName();
        chosenBeforeAny();
        chosenWithoutName();
        downFromZeroOn();
        downOfAllNames();
        downWithoutAny();
        downAsItWasFound();
        lockFromZeroOn();
        lockOfAllNames();
        lockWithoutAny();
        lockOfAnotherWhat();
        lockFirstOfThese();
        lockAsItWasFound();
        CHECK.end();
    }

    private static void due(String call, long got, long want) {
        CHECK.due(call, got, want);
    }

    /** So many names of which the first ones must change. */
    private static LeastChange changing(int names, int changed) {
        LeastChange x = Starts.names(names, 2, 0);
        for (int name = 0; name < changed; name++) {
            x.want(name, Starts.bits(1));
        }
        return x;
    }

    /** How many sets of at most so many of the names there are, counted one by one. */
    private static long tries(int names, int most) {
        long count = 0;
        for (int set = 0; set < 1 << names; set++) {
            count += Integer.bitCount(set) <= most ? 1 : 0;
        }
        return count;
    }

    private static LeastChange withoutChoice(int names) {
        LeastChange x = Starts.names(names, 2, 0);
        x.want(names - 1, 0);
        return x;
    }

    private static void dueNothingFound(String when, LeastChange x) {
        for (int name = 0; name < 8; name++) {
            due(when + ": chosen(" + name + ")", x.chosen(name), NONE);
        }
        due(when + ": down(0)", x.down(0), NONE);
        due(when + ": lock(0, 0)", x.lock(0, 0), -1);
    }

    // promise 7: "- 3: most is not 0 .. 8, or steps is below 1."

    private static void solveMostZeroToEight() {
        LeastChange x = changing(8, 2);
        due("solve(-1, ..)", x.solve(-1, Starts.PLENTY), -3);
        due("solve(0, ..)", x.solve(0, Starts.PLENTY), 2);
        due("solve(8, ..)", x.solve(8, Starts.PLENTY), 2);
        due("solve(9, ..)", x.solve(9, Starts.PLENTY), -3);
        for (int far : Starts.FAR) {
            due("solve(" + far + ", ..)", x.solve(far, Starts.PLENTY), -3);
        }
        LeastChange empty = new LeastChange();
        due("no names: solve(8, ..)", empty.solve(8, 1), 0);
        due("no names: solve(9, ..)", empty.solve(9, 1), -3);
        due("no names: solve(-1, ..)", empty.solve(-1, 1), -3);
    }

    private static void solveStepsFromOne() {
        LeastChange x = changing(8, 0);
        due("solve(0, -1)", x.solve(0, -1), -3);
        due("solve(0, 0)", x.solve(0, 0), -3);
        due("solve(0, 1)", x.solve(0, 1), 0);
        due("solve(0, MIN)", x.solve(0, Long.MIN_VALUE), -3);
        due("solve(0, MIN + 1)", x.solve(0, Long.MIN_VALUE + 1), -3);
        due("solve(0, -(1 << 32) + 1)", x.solve(0, -(1L << 32) + 1), -3);
        LeastChange empty = new LeastChange();
        due("no names: solve(0, 0)", empty.solve(0, 0), -3);
    }

    /** "If a RIGHT CHOICE has at most so many CHANGED: the BEST ..; else the RIGHT CHOICE that comes first of all." */
    private static void solveAtMostSoManyChanged() {
        for (int best = 1; best < 7; best++) {
            LeastChange x = changing(8, best - 1);
            x.needs(best - 1, 0, best, Starts.bits(1));
            x.needs(best - 1, 0, 7, Starts.bits(1));
            x.want(best, Starts.ALL);
            due("best has " + best + ": one less", x.solve(best - 1, Starts.PLENTY), best + 1);
            due("best has " + best + ": first of all", x.chosen(best - 1), 0);
            due("best has " + best + ": just so many", x.solve(best, Starts.PLENTY), best);
            due("best has " + best + ": the best", x.chosen(best - 1), 1);
            due("best has " + best + ": one more", x.solve(best + 1, Starts.PLENTY), best);
            due("best has " + best + ": still the best", x.chosen(best - 1), 1);
        }
    }

    /** "- 2 ..: to TRY as many as the BEST has CHANGED .. takes more than steps" */
    private static void solveStepsForTheBest() {
        for (int names = 1; names <= 8; names++) {
            for (int changed = 1; changed <= names; changed++) {
                String told = changed + " of " + names;
                LeastChange x = changing(names, changed);
                long tries = tries(names, changed);
                due(told + " change, one too few", x.solve(8, tries - 1), -2);
                due(told + " change, just enough", x.solve(8, tries), changed);
                due(told + " change, one more", x.solve(8, tries + 1), changed);
                due(told + " change, most is so many, one too few", x.solve(changed, tries - 1), -2);
                due(told + " change, most is so many", x.solve(changed, tries), changed);
            }
        }
    }

    /** "or, if none has at most so many, as many as most" */
    private static void solveStepsForMost() {
        for (int names = 2; names <= 8; names++) {
            for (int most = 0; most < names; most++) {
                String told = most + " of " + names;
                LeastChange x = changing(names, names);
                long tries = tries(names, most);
                due(told + ", one too few", x.solve(most, tries - 1), most == 0 ? -3 : -2);
                due(told + ", just enough", x.solve(most, tries), names);
                LeastChange without = withoutChoice(names);
                due(told + ", no choice, one too few", without.solve(most, tries - 1), most == 0 ? -3 : -2);
                due(told + ", no choice, just enough", without.solve(most, tries), -1);
            }
        }
    }

    /** "(or all NAMES, if these are fewer)" */
    private static void solveStepsForFewerNames() {
        for (int names = 1; names <= 8; names++) {
            for (int most = names; most <= 8; most++) {
                LeastChange x = withoutChoice(names);
                due(most + " with " + names + " names, one too few", x.solve(most, (1L << names) - 1), -2);
                due(most + " with " + names + " names, just enough", x.solve(most, 1L << names), -1);
            }
        }
    }

    private static void solveStepsDoNotWrapAround() {
        LeastChange x = changing(8, 8);
        long[] many = {256, 257, 1L << 31, 1L << 32, (1L << 32) + 1, 1L << 62, Long.MAX_VALUE};
        for (long steps : many) {
            due("solve(8, " + steps + ")", x.solve(8, steps), 8);
        }
        due("solve(8, 255)", x.solve(8, 255), -2);
    }

    /** "- 2, ahead of all but - 3" */
    private static void solveTooManyAheadOfNoChoice() {
        LeastChange x = withoutChoice(8);
        due("no choice: solve(8, 255)", x.solve(8, 255), -2);
        due("no choice: solve(8, 256)", x.solve(8, 256), -1);
        due("no choice: solve(1, 8)", x.solve(1, 8), -2);
        due("no choice: solve(1, 9)", x.solve(1, 9), -1);
        due("no choice: solve(0, 1)", x.solve(0, 1), -1);
    }

    private static void solveWrongAheadOfAll() {
        LeastChange x = withoutChoice(8);
        due("no choice, too many: solve(9, 1)", x.solve(9, 1), -3);
        due("no choice, too many: solve(8, 0)", x.solve(8, 0), -3);
        due("no choice: solve(-1, 256)", x.solve(-1, 256), -3);
        due("no choice: solve(9, 256)", x.solve(9, 256), -3);
        due("both wrong: solve(9, 0)", x.solve(9, 0), -3);
    }

    /** "(With - 1 to - 3 what was FOUND stays.)" */
    private static LeastChange found() {
        LeastChange x = new LeastChange();
        x.name(3, 2);
        x.name(3, NONE);
        x.name(3, 0);
        x.want(0, Starts.bits(1));
        due("found: solve", x.solve(8, Starts.PLENTY), 1);
        return x;
    }

    private static void dueFoundStays(String when, LeastChange x) {
        int[] chosen = {1, NONE, 0};
        for (int name = 0; name < 3; name++) {
            due(when + ": chosen(" + name + ")", x.chosen(name), chosen[name]);
        }
        due(when + ": down(0)", x.down(0), 0);
        due(when + ": down(1)", x.down(1), NONE);
        due(when + ": lock(0, 3)", x.lock(0, 3), 1);
        due(when + ": lock(1, 0)", x.lock(1, 0), 2);
        due(when + ": lock(1, 3)", x.lock(1, 3), 0);
        due(when + ": lock(2, 0)", x.lock(2, 0), -1);
    }

    private static void solveWithoutChoiceKeepsFound() {
        LeastChange x = found();
        x.want(2, 0);
        due("no choice: solve", x.solve(8, Starts.PLENTY), -1);
        dueFoundStays("after -1", x);
    }

    private static void solveTooManyKeepsFound() {
        LeastChange x = found();
        x.want(2, Starts.bits(2));
        due("too many: solve(8, 6)", x.solve(8, 6), -2);
        dueFoundStays("after -2", x);
        due("too many, none has so few: solve(1, 3)", x.solve(1, 3), -2);
        dueFoundStays("after another -2", x);
    }

    private static void solveWrongKeepsFound() {
        LeastChange x = found();
        x.want(2, Starts.bits(2));
        due("wrong: solve(9, 256)", x.solve(9, 256), -3);
        dueFoundStays("after -3", x);
        due("wrong: solve(-1, 256)", x.solve(-1, 256), -3);
        dueFoundStays("after another -3", x);
        due("wrong: solve(8, 0)", x.solve(8, 0), -3);
        dueFoundStays("after -3 for its steps", x);
    }

    private static void solveRefusedFindsNothing() {
        LeastChange x = changing(2, 2);
        x.solve(8, 3);
        dueNothingFound("only -2 before", x);
        x.solve(9, 3);
        dueNothingFound("only -3 before", x);
        x.want(0, 0);
        x.solve(8, 4);
        dueNothingFound("only -1 before", x);
    }

    // promise 8: "NONE for none, for a NAME that wasn't there then, before any, and if there is no such NAME"

    private static void chosenNone() {
        LeastChange x = Starts.names(8, 1, NONE);
        x.solve(0, 1);
        for (int name = 0; name < 8; name++) {
            due("NONE is given: chosen(" + name + ")", x.chosen(name), NONE);
        }
        LeastChange was = Starts.names(1, 1, 0);
        was.solve(0, 1);
        was.force(0, 0);
        was.solve(8, 2);
        due("NONE is given now: chosen(0)", was.chosen(0), NONE);
    }

    private static void chosenOfLaterName() {
        LeastChange x = new LeastChange();
        x.solve(0, 1);
        for (int name = 0; name < 8; name++) {
            x.name(6, 5);
            due("not there then: chosen(" + name + ")", x.chosen(name), NONE);
            due("once it is there: solve", x.solve(0, 1), 0);
            due("once it is there: chosen(" + name + ")", x.chosen(name), 5);
        }
        LeastChange merged = Starts.names(1, 6, 5);
        merged.merge(0);
        merged.name(6, 5);
        due("not there at the merge: chosen(1)", merged.chosen(1), NONE);
        due("there at the merge: chosen(0)", merged.chosen(0), 5);
    }

    private static void chosenBeforeAny() {
        LeastChange x = Starts.names(8, 6, 5);
        dueNothingFound("before any", x);
        due("a merge that fails: merge(-1)", x.merge(-1), -2);
        x.want(0, 0);
        due("a merge that fails: merge(0)", x.merge(0), 0);
        dueNothingFound("before any but failed merges", x);
    }

    private static void chosenWithoutName() {
        LeastChange x = Starts.names(3, 2, 1);
        x.solve(0, 1);
        due("chosen(-1)", x.chosen(-1), NONE);
        due("chosen(0)", x.chosen(0), 1);
        due("chosen(2)", x.chosen(2), 1);
        due("chosen(3)", x.chosen(3), NONE);
        due("chosen(8)", x.chosen(8), NONE);
        for (int far : Starts.FAR) {
            due("chosen(" + far + ")", x.chosen(far), NONE);
        }
        LeastChange eight = Starts.names(8, 2, 1);
        eight.solve(0, 1);
        due("chosen(7) of 8", eight.chosen(7), 1);
        due("chosen(8) of 8", eight.chosen(8), NONE);
    }

    // promise 9: "The i-th NAME, from the least on (i from 0 on), that was DOWN ..; NONE if there is none such."

    private static void downFromZeroOn() {
        LeastChange x = Starts.names(8, 3, 1);
        x.want(1, Starts.bits(0));
        x.want(4, Starts.bits(0));
        x.want(5, Starts.bits(2));
        x.force(6, 0);
        due("2 are down: solve", x.solve(8, Starts.PLENTY), 4);
        due("down(-1)", x.down(-1), NONE);
        due("down(0)", x.down(0), 1);
        due("down(1)", x.down(1), 4);
        due("down(2)", x.down(2), NONE);
        for (int far : Starts.FAR) {
            due("down(" + far + ")", x.down(far), NONE);
        }
    }

    private static void downOfAllNames() {
        LeastChange x = Starts.names(8, 2, 1);
        for (int name = 0; name < 8; name++) {
            x.want(name, Starts.bits(0));
        }
        due("all are down: solve", x.solve(8, Starts.PLENTY), 8);
        due("all are down: down(-1)", x.down(-1), NONE);
        for (int i = 0; i < 8; i++) {
            due("all are down: down(" + i + ")", x.down(i), i);
        }
        due("all are down: down(8)", x.down(8), NONE);
    }

    private static void downWithoutAny() {
        LeastChange x = Starts.names(8, 2, 0);
        due("before any: down(0)", x.down(0), NONE);
        x.solve(0, 1);
        due("nothing is down: down(0)", x.down(0), NONE);
        due("nothing is down: down(-1)", x.down(-1), NONE);
        LeastChange was = Starts.names(1, 2, 1);
        was.force(0, Starts.bits(0));
        was.solve(0, 1);
        due("one is down: down(0)", was.down(0), 0);
        was.solve(8, 2);
        due("found anew, it is not: down(0)", was.down(0), NONE);
    }

    /** ".. in the CHOICE that was FOUND last, as it was found": a merge locks to its choice afterwards. */
    private static void downAsItWasFound() {
        LeastChange x = Starts.names(2, 3, 2);
        x.want(1, Starts.bits(1));
        due("merge: 1", x.merge(0), 1);
        due("down as it was found", x.down(0), 1);
        due("down as it was found, alone", x.down(1), NONE);
        x.name(3, 2);
        x.want(0, 0);
        due("down stays", x.down(0), 1);
        due("down stays alone", x.down(1), NONE);
    }

    // promise 10: "Of the i-th NAME .. to which the CHOICE .. gave a VERSION .. - 1: there is none such"

    private static void lockFromZeroOn() {
        LeastChange x = new LeastChange();
        for (int name = 0; name < 8; name++) {
            x.name(6, name % 3 == 1 ? 5 : NONE);
        }
        x.solve(0, 1);
        due("lock(-1, 0)", x.lock(-1, 0), -1);
        due("lock(0, 0)", x.lock(0, 0), 1);
        due("lock(1, 0)", x.lock(1, 0), 4);
        due("lock(2, 0)", x.lock(2, 0), 7);
        due("lock(3, 0)", x.lock(3, 0), -1);
        for (int far : Starts.FAR) {
            due("lock(" + far + ", 0)", x.lock(far, 0), -1);
        }
    }

    private static void lockOfAllNames() {
        LeastChange x = Starts.names(8, 6, 5);
        x.want(7, Starts.bits(0));
        x.solve(8, Starts.PLENTY);
        for (int i = 0; i < 8; i++) {
            int version = i == 7 ? 0 : 5;
            due("all are given: lock(" + i + ", 0)", x.lock(i, 0), i);
            due("all are given: lock(" + i + ", 1)", x.lock(i, 1), version);
            due("all are given: lock(" + i + ", 2)", x.lock(i, 2), Starts.digestOf(i, version) % 2147483647L);
            due("all are given: lock(" + i + ", 3)", x.lock(i, 3), i == 7 ? 1 : 0);
        }
        due("all are given: lock(8, 0)", x.lock(8, 0), -1);
        due("all are given: lock(-1, 0)", x.lock(-1, 0), -1);
    }

    private static void lockWithoutAny() {
        LeastChange x = Starts.names(8, 6, NONE);
        due("before any: lock(0, 0)", x.lock(0, 0), -1);
        x.solve(0, 1);
        due("NONE for all: lock(0, 0)", x.lock(0, 0), -1);
        due("NONE for all: lock(-1, 0)", x.lock(-1, 0), -1);
        LeastChange empty = new LeastChange();
        due("no names, before any: lock(0, 0)", empty.lock(0, 0), -1);
        empty.solve(0, 1);
        due("no names: lock(0, 0)", empty.lock(0, 0), -1);
    }

    /** "- 2: another what" */
    private static void lockOfAnotherWhat() {
        LeastChange x = Starts.names(1, 6, 5);
        x.solve(0, 1);
        due("lock(0, -1)", x.lock(0, -1), -2);
        due("lock(0, 0)", x.lock(0, 0), 0);
        due("lock(0, 3)", x.lock(0, 3), 0);
        due("lock(0, 4)", x.lock(0, 4), -2);
        for (int far : Starts.FAR) {
            due("lock(0, " + far + ")", x.lock(0, far), -2);
        }
    }

    /** "- 1: there is none such; - 2: another what. The first of these." */
    private static void lockFirstOfThese() {
        LeastChange x = Starts.names(1, 6, 5);
        due("before any: lock(0, 4)", x.lock(0, 4), -1);
        x.solve(0, 1);
        due("lock(1, 4)", x.lock(1, 4), -1);
        due("lock(1, -1)", x.lock(1, -1), -1);
        due("lock(-1, 4)", x.lock(-1, 4), -1);
        due("lock(-1, -1)", x.lock(-1, -1), -1);
    }

    /** "3 whether it was CHANGED as it was found": a merge locks to its choice afterwards. */
    private static void lockAsItWasFound() {
        LeastChange x = Starts.names(2, 3, 2);
        x.want(1, Starts.bits(1));
        due("merge: 1", x.merge(0), 1);
        due("not changed as it was found", x.lock(0, 3), 0);
        due("changed as it was found", x.lock(1, 3), 1);
        x.name(3, 0);
        x.want(0, 0);
        due("changed stays", x.lock(1, 3), 1);
        due("no later name in the lock", x.lock(2, 0), -1);
    }
}
