/** The sentences of the promises 11 and 12 (digests and joined locks) that name a boundary, each by its own test. */
public final class LockBoundaryTest {
    private static final int NONE = LeastChange.NONE;
    private static final Check CHECK = new Check("LockBoundaryTest");

    public static void main(String[] args) {
        digestWithoutName();
        digestOfNone();
        digestOfGone();
        digestJustBeside();
        digestOfAnother();
        digestBarsAndBarsNoMore();
        digestBarsThatVersionAlone();
        digestOfTheOnlyVersion();
        digestAfterMerge();
        mergeBelowZero();
        mergeOtherBits();
        mergeOtherBitsAheadOfNoChoice();
        mergeNumbers();
        mergeTheGreater();
        mergeNothingSaid();
        mergeWithoutChoiceLeavesFound();
        mergeWithoutChoiceLeavesLocks();
        mergeWithoutChoiceLeavesBarred();
        mergeRefusedLeavesAll();
        mergeBarredStayBarred();
        mergeLocksToNone();
        mergeTakesOffTheBars();
        mergeHasNoMost();
        CHECK.end();
    }

    private static void due(String call, long got, long want) {
        CHECK.due(call, got, want);
    }

    // promise 11: "- 1: there is no such NAME; - 3: it is LOCKED to NONE, or GONE."

    private static void digestWithoutName() {
        LeastChange x = Starts.names(3, 6, 5);
        due("digest(-1, 0)", x.digest(-1, 0), -1);
        due("digest(0, 0)", x.digest(0, 0), Starts.digestOf(0, 5));
        due("digest(2, 0)", x.digest(2, 0), Starts.digestOf(2, 5));
        due("digest(3, 0)", x.digest(3, 0), -1);
        for (int far : Starts.FAR) {
            due("digest(" + far + ", 0)", x.digest(far, 0), -1);
        }
        LeastChange eight = Starts.names(8, 6, 5);
        due("digest(7, 0) of 8", eight.digest(7, 0), Starts.digestOf(7, 5));
        due("digest(8, 0) of 8", eight.digest(8, 0), -1);
    }

    private static void digestOfNone() {
        LeastChange x = Starts.names(1, 6, NONE);
        due("locked to NONE: digest", x.digest(0, Starts.digestOf(0, NONE)), -3);
        due("locked to NONE: nothing is barred", x.solve(0, 1), 0);
        LeastChange zero = Starts.names(1, 6, 0);
        due("locked to 0: digest", zero.digest(0, 0), Starts.digestOf(0, 0));
    }

    private static void digestOfGone() {
        for (int versions = 1; versions <= 6; versions++) {
            LeastChange last = Starts.names(1, versions, versions - 1);
            due("the last of " + versions + ": digest", last.digest(0, 0), Starts.digestOf(0, versions - 1));
            LeastChange gone = Starts.names(1, versions, versions);
            due("gone from " + versions + ": digest", gone.digest(0, Starts.digestOf(0, versions)), -3);
            LeastChange nine = Starts.names(1, versions, 9);
            due("gone to 9 from " + versions + ": digest", nine.digest(0, 0), -3);
            gone.want(0, Starts.ALL);
            gone.solve(8, 2);
            due("gone from " + versions + ": nothing is barred", gone.chosen(0), versions - 1);
        }
    }

    /** "If d is another one, that VERSION of this NAME is BARRED": by one, and by the upper bits alone. */
    private static void digestJustBeside() {
        long own = Starts.digestOf(0, 5);
        long[] others = {own - 1, own + 1, own ^ 1L << 32, own ^ 1L << 62, own ^ Long.MIN_VALUE, -own, (int) own, 0,
            -1, Long.MIN_VALUE, Long.MAX_VALUE, own % 2147483647L};
        for (long d : others) {
            LeastChange x = Starts.names(1, 6, 5);
            due("digest(0, " + d + ")", x.digest(0, d), own);
            due("barred by " + d, x.solve(8, 2), 1);
        }
        LeastChange x = Starts.names(1, 6, 5);
        due("the right digest", x.digest(0, own), own);
        due("not barred by the right digest", x.solve(8, 2), 0);
    }

    private static void digestOfAnother() {
        LeastChange x = Starts.names(2, 6, 3);
        x.digest(0, Starts.digestOf(0, 4));
        due("another version's digest bars", x.solve(8, 4), 1);
        x.digest(0, Starts.digestOf(1, 3));
        due("another name's digest bars", x.solve(8, 4), 1);
        due("it bars this name", x.chosen(0), 5);
        due("it does not bar the other", x.chosen(1), 3);
    }

    /** "BARRED from now on, else it isn't (any more)" */
    private static void digestBarsAndBarsNoMore() {
        LeastChange x = Starts.names(1, 6, 5);
        x.digest(0, 1);
        x.digest(0, 2);
        due("barred twice", x.solve(8, 2), 1);
        x.digest(0, Starts.digestOf(0, 5));
        due("not any more", x.solve(8, 2), 0);
        x.digest(0, Starts.digestOf(0, 5));
        due("still not", x.solve(8, 2), 0);
        x.digest(0, 1);
        due("barred again", x.solve(8, 2), 1);
        x.name(6, 5);
        x.want(1, Starts.ALL);
        due("barred from now on", x.solve(8, 4), 1);
    }

    private static void digestBarsThatVersionAlone() {
        for (int name = 0; name < 8; name++) {
            LeastChange x = Starts.names(8, 6, 2);
            x.digest(name, 0);
            due("name " + name + " is barred", x.solve(0, Starts.PLENTY), 1);
            for (int other = 0; other < 8; other++) {
                due("chosen(" + other + ") beside " + name, x.chosen(other), other == name ? 5 : 2);
            }
            x.want(name, Starts.bits(0, 1, 2, 3));
            x.solve(0, Starts.PLENTY);
            due("name " + name + " may be 3", x.chosen(name), 3);
            x.want(name, Starts.bits(0, 1, 2));
            x.solve(0, Starts.PLENTY);
            due("name " + name + " may be 1, not 2", x.chosen(name), 1);
        }
    }

    private static void digestOfTheOnlyVersion() {
        LeastChange x = Starts.names(1, 1, 0);
        x.digest(0, 0);
        due("the only version is barred", x.solve(8, 2), 1);
        due("NONE is not barred", x.chosen(0), NONE);
        x.want(0, Starts.bits(0));
        due("the only version is barred, and wanted", x.solve(8, 2), -1);
        x.digest(0, Starts.digestOf(0, 0));
        due("it is there again", x.solve(8, 2), 0);
    }

    private static void digestAfterMerge() {
        LeastChange x = Starts.names(2, 6, 1);
        x.merge(Starts.lockOf(5, NONE));
        due("digest of what is locked now", x.digest(0, Starts.digestOf(0, 1)), Starts.digestOf(0, 5));
        due("digest of what stayed locked", x.digest(1, Starts.digestOf(1, 1)), Starts.digestOf(1, 1));
        due("what is locked now is barred", x.solve(0, 4), 1);
        due("what is locked now is not given", x.chosen(0), 4);
        due("what stayed is", x.chosen(1), 1);
    }

    // promise 12: "- 2: lock is below 0, or has other bits."

    private static void mergeBelowZero() {
        int[] below = {-1, -2, -8, -(1 << 24), Integer.MIN_VALUE, Integer.MIN_VALUE + 1};
        for (int names = 0; names <= 8; names++) {
            LeastChange x = Starts.names(names, 6, 5);
            for (int lock : below) {
                due(names + " names: merge(" + lock + ")", x.merge(lock), -2);
            }
            due(names + " names: merge(0)", x.merge(0), 1);
        }
    }

    private static void mergeOtherBits() {
        for (int names = 0; names <= 8; names++) {
            LeastChange x = Starts.names(names, 6, 5);
            for (int bit = 0; bit < 31; bit++) {
                due(names + " names: merge of bit " + bit, x.merge(1 << bit), bit < 3 * names ? 1 : -2);
            }
            int most = (1 << 3 * names) - 1;
            due(names + " names: all bits", x.merge(most), 1);
            due(names + " names: one more", x.merge(most + 1), -2);
            due(names + " names: MAX", x.merge(Integer.MAX_VALUE), -2);
        }
    }

    private static void mergeOtherBitsAheadOfNoChoice() {
        LeastChange x = Starts.names(8, 6, 5);
        x.want(7, 0);
        due("no choice: merge(-1)", x.merge(-1), -2);
        due("no choice: merge(1 << 24)", x.merge(1 << 24), -2);
        due("no choice: merge((1 << 24) - 1)", x.merge((1 << 24) - 1), 0);
        due("no choice: merge(0)", x.merge(0), 0);
    }

    /** "three bits a NAME, the lowest ones of NAME 0: 0 NONE, else a number and 1" */
    private static void mergeNumbers() {
        for (int name = 0; name < 8; name++) {
            for (int code = 0; code < 8; code++) {
                String told = code + " for " + name;
                LeastChange x = Starts.names(8, 6, NONE);
                due("merge of " + told, x.merge(code << 3 * name), 1);
                for (int other = 0; other < 8; other++) {
                    int said = other == name && code <= 6 ? code - 1 : NONE;
                    due("merge of " + told + ": chosen(" + other + ")", x.chosen(other), said);
                }
            }
        }
    }

    /** "LOCKED to the greater of what it is LOCKED to and what the other lock says (NONE is less than all)" */
    private static void mergeTheGreater() {
        for (int locked = -1; locked <= 9; locked++) {
            for (int said = -1; said <= 6; said++) {
                int greater = Math.max(locked, said);
                boolean gone = greater >= 6;
                String told = locked + " with " + said;
                LeastChange x = Starts.names(1, 6, locked);
                due("merge of " + told, x.merge(Starts.lockOf(said)), 1);
                due("merge of " + told + ": chosen", x.chosen(0), gone ? NONE : greater);
                due("merge of " + told + ": locked", x.solve(0, 1), 0);
                LeastChange wanted = Starts.names(1, 6, locked);
                wanted.want(0, Starts.bits(0));
                due("merge of " + told + ", 0 is wanted", wanted.merge(Starts.lockOf(said)), 1);
                due("merge of " + told + ", 0 is wanted: changed", wanted.lock(0, 3), greater == 0 ? 0 : 1);
                due("merge of " + told + ", 0 is wanted: down", wanted.down(0), greater > 0 ? 0 : NONE);
            }
        }
    }

    private static void mergeNothingSaid() {
        LeastChange x = new LeastChange();
        for (int locked = -1; locked <= 6; locked++) {
            x.name(6, locked);
        }
        due("merge(0)", x.merge(0), 1);
        for (int locked = -1; locked <= 6; locked++) {
            due("merge(0): chosen", x.chosen(locked + 1), locked == 6 ? NONE : locked);
        }
    }

    /** "0, and nothing happens, without one." */
    private static void mergeWithoutChoiceLeavesFound() {
        LeastChange x = Starts.names(2, 3, 2);
        x.want(0, Starts.bits(1));
        x.solve(8, 4);
        x.want(1, 0);
        due("no choice: merge", x.merge(Starts.lockOf(0, 0)), 0);
        due("found stays: chosen(0)", x.chosen(0), 1);
        due("found stays: chosen(1)", x.chosen(1), 2);
        due("found stays: down(0)", x.down(0), 0);
        due("found stays: lock(0, 3)", x.lock(0, 3), 1);
        due("found stays: lock(1, 3)", x.lock(1, 3), 0);
    }

    private static void mergeWithoutChoiceLeavesLocks() {
        LeastChange x = Starts.names(2, 6, 1);
        x.digest(0, 0);
        x.want(0, Starts.bits(1));
        due("no choice: merge", x.merge(Starts.lockOf(5, 5)), 0);
        due("locked as before: digest(0, ..)", x.digest(0, Starts.digestOf(0, 1)), Starts.digestOf(0, 1));
        due("locked as before: digest(1, ..)", x.digest(1, Starts.digestOf(1, 1)), Starts.digestOf(1, 1));
        due("locked as before: solve", x.solve(0, 1), 0);
        due("locked as before: chosen(1)", x.chosen(1), 1);
    }

    private static void mergeWithoutChoiceLeavesBarred() {
        LeastChange x = Starts.names(2, 2, 1);
        x.digest(0, 0);
        x.digest(1, 0);
        x.want(0, Starts.bits(1));
        due("no choice: merge", x.merge(Starts.lockOf(1, 1)), 0);
        x.digest(0, Starts.digestOf(0, 1));
        due("the other is barred as before", x.solve(8, 4), 1);
        due("the other is barred as before: chosen(1)", x.chosen(1), NONE);
    }

    private static void mergeRefusedLeavesAll() {
        LeastChange x = Starts.names(2, 3, 1);
        x.digest(0, 0);
        x.solve(0, 1);
        due("refused: merge(-1)", x.merge(-1), -2);
        due("refused: merge of other bits", x.merge(1 << 6 | Starts.lockOf(2, 2)), -2);
        due("refused: chosen(0)", x.chosen(0), 2);
        due("refused: chosen(1)", x.chosen(1), 1);
        due("refused: lock(0, 3)", x.lock(0, 3), 1);
        x.force(0, Starts.bits(1));
        due("refused: barred as before", x.solve(8, 4), 1);
        due("refused: locked as before", x.digest(1, 0), Starts.digestOf(1, 1));
    }

    /** "(BARRED ones stay so)": also where the other lock says that very version. */
    private static void mergeBarredStayBarred() {
        for (int said = -1; said <= 3; said++) {
            LeastChange x = Starts.names(1, 6, 3);
            x.digest(0, 0);
            due("barred 3 with " + said, x.merge(Starts.lockOf(said)), 1);
            due("barred 3 with " + said + ": chosen", x.chosen(0), 5);
        }
        LeastChange greater = Starts.names(1, 6, 3);
        greater.digest(0, 0);
        due("barred 3 with 4", greater.merge(Starts.lockOf(4)), 1);
        due("barred 3 with 4: chosen", greater.chosen(0), 4);
        LeastChange only = Starts.names(1, 6, 3);
        only.digest(0, 0);
        only.want(0, Starts.bits(3));
        due("barred 3, 3 is wanted", only.merge(Starts.lockOf(5)), 0);
    }

    /** "all NAMES are LOCKED to what it gives": to NONE too. */
    private static void mergeLocksToNone() {
        LeastChange x = Starts.names(2, 6, 3);
        x.force(0, 0);
        due("merge to NONE", x.merge(0), 1);
        due("locked to NONE: digest", x.digest(0, 0), -3);
        due("locked to NONE: nothing changes", x.solve(0, 1), 0);
        LeastChange gone = Starts.names(1, 6, 9);
        due("gone, merged", gone.merge(0), 1);
        due("gone no more: nothing changes", gone.solve(0, 1), 0);
    }

    /** "of those that are LOCKED to something else than before nothing is BARRED any more" */
    private static void mergeTakesOffTheBars() {
        LeastChange x = Starts.names(2, 6, 3);
        x.digest(0, 0);
        x.digest(1, 0);
        x.want(0, Starts.ALL);
        x.force(1, Starts.bits(0, 1, 2, 3));
        due("both are barred: merge", x.merge(0), 1);
        due("both are barred: chosen(0)", x.chosen(0), 5);
        due("both are barred: chosen(1)", x.chosen(1), NONE);
        due("back by another merge", x.merge(Starts.lockOf(NONE, 3)), 1);
        due("back by another merge: chosen(1)", x.chosen(1), 3);
        x.want(0, Starts.bits(3));
        due("3 may be given again", x.solve(8, 4), 1);
        due("3 may be given again: chosen(0)", x.chosen(0), 3);
    }

    /** "If there is a RIGHT CHOICE so .., the BEST one is FOUND": however many are changed. */
    private static void mergeHasNoMost() {
        LeastChange x = Starts.names(8, 6, 4);
        for (int name = 0; name < 8; name++) {
            x.want(name, Starts.bits(0, 5));
        }
        x.needs(0, 5, 6, Starts.bits(0));
        x.needs(0, 5, 7, Starts.bits(0));
        due("merge of 8 that change", x.merge(0), 1);
        due("only the first goes down", x.down(0), 0);
        due("the best has one down", x.down(1), NONE);
        for (int i = 0; i < 8; i++) {
            due("merge of 8 that change: lock(" + i + ", 3)", x.lock(i, 3), 1);
        }
        due("merge of 8 that change: chosen(0)", x.chosen(0), 0);
        due("merge of 8 that change: chosen(7)", x.chosen(7), 5);
    }
}
