import java.math.BigInteger;

/** The sentences of the section "Terms" that name a boundary, each by a test of its own. */
public final class TermsBoundaryTest {
    private static final int NONE = LeastChange.NONE;
    private static final Check CHECK = new Check("TermsBoundaryTest");

    public static void main(String[] args) {
        namesAreAtMostEightFromZero();
        versionsGoUpToFive();
        lockedBeyondTheVersionsIsGone();
        bitsOfSetsInWant();
        bitsOfSetsInForce();
        bitsOfSetsInNeed();
        emptySets();
        fullSets();
        choiceOfNoNames();
        rowsAreAtMostSixtyFromZero();
        needOfItself();
        needOfWhatIsNotGiven();
        groupAtEachPair();
        goneIsAlwaysChanged();
        downIsLess();
        noneIsNeverDown();
        orderOfOneName();
        orderGoesByTheFirstNameThatDiffers();
        fewestChangedAheadOfFewestDown();
        fewestDownAheadOfTheOrder();
        noneCountsAsNotDown();
        digestsDoNotWrapAround();
        answersUpToThe512thCall();
        CHECK.end();
    }

    private static void due(String call, long got, long want) {
        CHECK.due(call, got, want);
    }

    /** "NAMES, at most 8, numbered from 0" */
    private static void namesAreAtMostEightFromZero() {
        LeastChange x = new LeastChange();
        for (int i = 0; i < 8; i++) {
            due("no name " + i + " yet", x.want(i, Starts.ALL), -1);
            due("name " + i, x.name(1, 0), i);
            due("want of name " + i, x.want(i, Starts.ALL), i);
        }
        due("ninth name", x.name(1, 0), -4);
        due("tenth name", x.name(1, 0), -4);
        due("no name 8", x.want(8, Starts.ALL), -1);
        due("8 names are all there", x.solve(0, 1), 0);
        due("the eighth has a choice", x.chosen(7), 0);
    }

    /** "have VERSIONS 0 .. up to 5" */
    private static void versionsGoUpToFive() {
        for (int versions = 1; versions <= 6; versions++) {
            LeastChange x = Starts.names(1, versions, NONE);
            due("version -1 of " + versions, x.needs(0, -1, 0, Starts.ALL), -2);
            due("version 0 of " + versions, x.needs(0, 0, 0, Starts.ALL), 0);
            due("greatest version of " + versions, x.needs(0, versions - 1, 0, Starts.ALL), 1);
            due("one more than " + versions, x.needs(0, versions, 0, Starts.ALL), -2);
            x.want(0, Starts.ALL);
            due("a version of " + versions, x.solve(8, Starts.PLENTY), 1);
            due("the greatest of " + versions + " is given", x.chosen(0), versions - 1);
        }
    }

    /** "LOCKED to a number that is none of its VERSIONS a NAME is GONE" */
    private static void lockedBeyondTheVersionsIsGone() {
        for (int versions = 1; versions <= 6; versions++) {
            for (int locked = -1; locked <= 9; locked++) {
                String told = locked + " of " + versions;
                LeastChange x = Starts.names(1, versions, locked);
                boolean gone = locked >= versions;
                due("changed, locked to " + told, x.solve(8, Starts.PLENTY), gone ? 1 : 0);
                due("chosen, locked to " + told, x.chosen(0), gone ? NONE : locked);
                due("digest, locked to " + told, x.digest(0, 0),
                    gone || locked == NONE ? -3 : Starts.digestOf(0, locked));
            }
        }
    }

    /** "A SET of VERSIONS is bits 0 .. 5 (others mean nothing, nor do VERSIONS that aren't there)" */
    private static void bitsOfSetsInWant() {
        for (int versions = 1; versions <= 6; versions++) {
            for (int bit = 0; bit < 64; bit++) {
                LeastChange x = Starts.names(1, versions, NONE);
                x.want(0, 1L << bit);
                boolean there = bit < versions;
                due("want of bit " + bit + " of " + versions, x.solve(8, Starts.PLENTY), there ? 1 : -1);
                due("want gives bit " + bit + " of " + versions, x.chosen(0), there ? bit : NONE);
            }
        }
    }

    private static void bitsOfSetsInForce() {
        for (int versions = 1; versions <= 6; versions++) {
            for (int bit = 0; bit < 64; bit++) {
                LeastChange x = Starts.names(1, versions, 9);
                x.force(0, 1L << bit);
                due("force to bit " + bit + " of " + versions, x.solve(0, Starts.PLENTY), 1);
                due("force gives bit " + bit + " of " + versions, x.chosen(0), bit < versions ? bit : NONE);
            }
        }
    }

    private static void bitsOfSetsInNeed() {
        for (int versions = 1; versions <= 6; versions++) {
            for (int bit = 0; bit < 64; bit++) {
                LeastChange x = new LeastChange();
                x.name(1, 0);
                x.name(versions, NONE);
                x.want(0, Starts.bits(0));
                x.needs(0, 0, 1, 1L << bit);
                boolean there = bit < versions;
                due("need of bit " + bit + " of " + versions, x.solve(8, Starts.PLENTY), there ? 1 : -1);
                due("need gives bit " + bit + " of " + versions, x.chosen(1), there ? bit : NONE);
            }
        }
    }

    private static void emptySets() {
        LeastChange want = Starts.names(1, 6, 3);
        want.want(0, 0);
        due("want of the empty set", want.solve(8, Starts.PLENTY), -1);
        LeastChange force = Starts.names(1, 6, 3);
        force.force(0, 0);
        due("force to the empty set", force.solve(8, Starts.PLENTY), 1);
        due("force to the empty set leaves NONE", force.chosen(0), NONE);
        LeastChange need = Starts.names(2, 6, 3);
        need.needs(0, 3, 1, 0);
        due("need of the empty set", need.solve(8, Starts.PLENTY), 1);
        due("need of the empty set bars its version", need.chosen(0), 5);
        due("need of the empty set lets the other be", need.chosen(1), 3);
    }

    private static void fullSets() {
        LeastChange want = Starts.names(1, 6, NONE);
        want.want(0, Starts.ALL);
        due("want of all versions is not NONE", want.solve(8, Starts.PLENTY), 1);
        LeastChange force = Starts.names(1, 6, 3);
        force.force(0, Starts.ALL);
        due("force to all versions", force.solve(0, 1), 0);
        LeastChange need = new LeastChange();
        need.name(6, 3);
        need.name(6, NONE);
        need.want(0, Starts.bits(3));
        need.needs(0, 3, 1, Starts.ALL);
        due("need of all versions is not NONE", need.solve(8, Starts.PLENTY), 1);
        due("need of all versions gives the greatest", need.chosen(1), 5);
    }

    /** "A CHOICE gives each NAME one of its VERSIONS, or NONE": without NAMES there is one, and it is RIGHT. */
    private static void choiceOfNoNames() {
        LeastChange x = new LeastChange();
        due("no names: solve(0, 1)", x.solve(0, 1), 0);
        due("no names: solve(8, 1)", x.solve(8, 1), 0);
        due("no names: merge(0)", x.merge(0), 1);
        due("no names: chosen(0)", x.chosen(0), NONE);
        due("no names: lock(0, 0)", x.lock(0, 0), -1);
        due("no names: down(0)", x.down(0), NONE);
    }

    /** "ROWS, at most 60, numbered from 0" */
    private static void rowsAreAtMostSixtyFromZero() {
        LeastChange x = Starts.names(2, 6, 0);
        for (int i = 0; i < 60; i += 4) {
            due("row " + i, x.needs(0, 5, 1, Starts.ALL), i);
            due("row " + (i + 1), x.want(0, Starts.ALL), i + 1);
            due("row " + (i + 2), x.force(1, Starts.ALL), i + 2);
            due("row " + (i + 3), x.group(1, 0), i + 3);
        }
        due("61st row, need", x.needs(0, 5, 1, Starts.ALL), -4);
        due("61st row, want", x.want(0, Starts.ALL), -4);
        due("61st row, force", x.force(1, Starts.ALL), -4);
        due("61st row, group", x.group(1, 0), -4);
        due("row(56)", x.row(56), 5 * 8 + 1);
        due("row(59)", x.row(59), 3 * 512 + 64);
        CHECK.dueNoRow(x, 60);
    }

    /** "another NAME (or itself) is given one of a SET" */
    private static void needOfItself() {
        for (int version = 0; version < 6; version++) {
            for (int bit = 0; bit < 6; bit++) {
                LeastChange x = Starts.names(1, 6, version);
                x.needs(0, version, 0, 1L << bit);
                int greatest = version == 5 ? 4 : 5;
                due(version + " needs " + bit + " of itself", x.solve(0, Starts.PLENTY), bit == version ? 0 : 1);
                due(version + " needs " + bit + " of itself: given", x.chosen(0), bit == version ? version : greatest);
            }
        }
    }

    /** "if a NAME is given a VERSION": neither another VERSION of it nor NONE asks for anything. */
    private static void needOfWhatIsNotGiven() {
        for (int locked = -1; locked < 6; locked++) {
            LeastChange x = new LeastChange();
            x.name(6, locked);
            x.name(1, NONE);
            for (int version = 0; version < 6; version++) {
                if (version != locked) {
                    x.needs(0, version, 1, 0);
                    x.needs(0, version, 0, 0);
                }
            }
            due("needs of all versions but " + locked, x.solve(8, Starts.PLENTY), 0);
        }
    }

    /** "3 GROUP: if two NAMES are given VERSIONS, these are the same number" */
    private static void groupAtEachPair() {
        for (int one = -1; one < 6; one++) {
            for (int two = -1; two < 6; two++) {
                for (int turned = 0; turned < 2; turned++) {
                    LeastChange x = new LeastChange();
                    x.name(6, one);
                    x.name(6, two);
                    x.group(turned, 1 - turned);
                    boolean holds = one == NONE || two == NONE || one == two;
                    due("group of " + one + " and " + two, x.solve(8, Starts.PLENTY), holds ? 0 : 1);
                }
            }
        }
    }

    /** "CHANGED are the NAMES that a CHOICE gives something else .. (one that is GONE always is)" */
    private static void goneIsAlwaysChanged() {
        for (int given = -1; given < 6; given++) {
            for (int locked = 6; locked <= 9; locked++) {
                LeastChange x = Starts.names(1, 6, locked);
                if (given == NONE) {
                    x.force(0, 0);
                } else {
                    x.want(0, 1L << given);
                }
                due("gone to " + locked + " and given " + given, x.solve(8, Starts.PLENTY), 1);
                due("gone to " + locked + ": chosen", x.chosen(0), given);
                due("gone to " + locked + ": changed", x.lock(0, 3), given == NONE ? -1 : 1);
            }
        }
    }

    /** "DOWN those that it gives a VERSION less than the number to which they are LOCKED (also of one that is GONE)" */
    private static void downIsLess() {
        for (int locked = -1; locked <= 9; locked++) {
            for (int given = 0; given < 6; given++) {
                LeastChange x = Starts.names(1, 6, locked);
                x.want(0, 1L << given);
                due("from " + locked + " to " + given, x.solve(8, Starts.PLENTY), given == locked ? 0 : 1);
                due("down from " + locked + " to " + given, x.down(0), given < locked ? 0 : NONE);
            }
        }
    }

    private static void noneIsNeverDown() {
        for (int locked = -1; locked <= 9; locked++) {
            LeastChange x = Starts.names(1, 6, locked);
            x.force(0, 0);
            due("from " + locked + " to NONE", x.solve(8, Starts.PLENTY), locked == NONE ? 0 : 1);
            due("NONE is not down from " + locked, x.down(0), NONE);
        }
    }

    /** "first what it is LOCKED to, if that may be given .., then its VERSIONS .., then NONE (each once)" */
    private static void orderOfOneName() {
        for (int versions = 1; versions <= 6; versions++) {
            for (int locked = -1; locked <= 9; locked++) {
                LeastChange x = Starts.names(1, versions, locked);
                if (locked < versions) {
                    dueNext(x, locked, locked);
                }
                for (int version = versions - 1; version >= NONE; version--) {
                    if (version != locked) {
                        dueNext(x, locked, version);
                    }
                }
                due("nothing is left of " + versions + ", locked to " + locked, x.solve(0, Starts.PLENTY), -1);
            }
        }
    }

    /** What comes first now is due; it is ruled out then. */
    private static void dueNext(LeastChange x, int locked, int next) {
        due("locked to " + locked + ", next is " + next, x.solve(0, Starts.PLENTY), next == locked ? 0 : 1);
        due("locked to " + locked + ", chosen next", x.chosen(0), next);
        if (next == NONE) {
            x.want(0, Starts.ALL);
        } else {
            x.force(0, ~(1L << next));
        }
    }

    /** "that one comes first that gives the first NAME, in which they differ, what comes first in its ORDER" */
    private static void orderGoesByTheFirstNameThatDiffers() {
        for (int first = 0; first < 7; first++) {
            LeastChange x = Starts.names(8, 2, 0);
            x.needs(7, 0, first, Starts.bits(1));
            due("name " + first + " or 7 changes", x.solve(8, Starts.PLENTY), 1);
            due("name " + first + " stays", x.chosen(first), 0);
            due("name 7 changes", x.chosen(7), 1);
        }
    }

    /** "BEST of some CHOICES is that with the fewest CHANGED, of those with the fewest DOWN" */
    private static void fewestChangedAheadOfFewestDown() {
        LeastChange x = new LeastChange();
        for (int name = 0; name < 7; name++) {
            x.name(6, 4);
        }
        x.name(6, 0);
        for (int name = 0; name < 7; name++) {
            x.want(name, Starts.bits(3, 5));
            x.needs(name, 5, 7, Starts.bits(1));
        }
        x.want(7, Starts.ALL);
        due("7 changed and down, not 8 and none", x.solve(8, Starts.PLENTY), 7);
        due("the seventh that is down", x.down(6), 6);
        due("the eighth stays", x.chosen(7), 0);
    }

    /** ".. of those with the fewest DOWN, of those the one that comes first" */
    private static void fewestDownAheadOfTheOrder() {
        LeastChange x = Starts.names(8, 3, 1);
        for (int name = 1; name < 8; name++) {
            x.want(name, Starts.bits(0, 2));
            x.needs(0, 2, name, Starts.bits(0));
        }
        x.want(0, Starts.bits(0, 2));
        due("all are changed", x.solve(8, Starts.PLENTY), 8);
        due("only the first is down", x.down(0), 0);
        due("no other is down", x.down(1), NONE);
        due("the first takes what comes later", x.chosen(0), 0);
        due("first of all", x.solve(7, Starts.PLENTY), 8);
        due("first of all takes what comes first", x.chosen(0), 2);
        due("first of all has 7 down", x.down(6), 7);
    }

    /** NONE is no VERSION that is less: a CHOICE that gives it comes ahead of one that goes back. */
    private static void noneCountsAsNotDown() {
        LeastChange x = new LeastChange();
        x.name(4, 1);
        x.name(4, 1);
        x.want(0, Starts.bits(2, 3));
        x.needs(0, 3, 1, Starts.bits(0));
        x.force(1, Starts.bits(0));
        due("both are changed", x.solve(8, Starts.PLENTY), 2);
        due("the later version of the first", x.chosen(0), 2);
        due("NONE for the second", x.chosen(1), NONE);
        due("nothing is down", x.down(0), NONE);
    }

    /** "The DIGEST of VERSION v of NAME n is ((n + 1) * 1000003 + v + 1) * 2654435761": no int holds it. */
    private static void digestsDoNotWrapAround() {
        for (int version = 0; version < 6; version++) {
            LeastChange x = Starts.names(8, 6, version);
            x.solve(0, 1);
            for (int name = 0; name < 8; name++) {
                BigInteger digest = BigInteger.valueOf(name + 1).multiply(BigInteger.valueOf(1000003))
                    .add(BigInteger.valueOf(version + 1)).multiply(BigInteger.valueOf(2654435761L));
                due("digest of " + version + " of " + name, x.digest(name, 0), digest.longValueExact());
                due("digest of " + version + " of " + name + " in the lock", x.lock(name, 2),
                    digest.mod(BigInteger.valueOf(2147483647)).intValueExact());
            }
        }
    }

    /** "An object is used for at most 512 calls after it has been made" */
    private static void answersUpToThe512thCall() {
        LeastChange x = Starts.names(8, 6, 2);
        for (int i = 0; i < 60; i++) {
            x.needs(i % 8, i % 6, (i + 3) % 8, Starts.ALL);
        }
        for (int call = 68; call < 511; call++) {
            due("call " + (call + 1), x.solve(8, Starts.PLENTY), 0);
        }
        due("call 512", x.chosen(7), 2);
    }
}
