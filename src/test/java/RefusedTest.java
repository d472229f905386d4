import java.util.ArrayList;
import java.util.List;
import java.util.function.Consumer;
import java.util.function.Supplier;
import java.util.function.ToLongFunction;

/**
 * A call that is refused, or that only asks, changes nothing: of two objects with the same calls behind them one is
 * refused a call, and both answer alike ever after.
 */
public final class RefusedTest {
    private static final int NONE = LeastChange.NONE;
    private static final long THROWN = Long.MIN_VALUE;
    private static final Check CHECK = new Check("RefusedTest");

    private record Refused(String told, ToLongFunction<LeastChange> call, long due) {
    }

    public static void main(String[] args) {
        look("empty", LeastChange::new, refusedAlways(0, 0));
        look("found", RefusedTest::found, refusedWhenFound());
        look("merged", RefusedTest::merged, refusedAlways(3, 4));
        look("without a choice", RefusedTest::withoutChoice, refusedWithoutChoice());
        look("never solved", RefusedTest::neverSolved, refusedWhenNeverSolved());
        look("8 names", RefusedTest::eightNames, refusedWithEightNames());
        look("60 rows", RefusedTest::sixtyRows, refusedWithSixtyRows());
        CHECK.end();
    }

    // the states in which calls are refused

    private static LeastChange found() {
        LeastChange x = new LeastChange();
        x.name(4, 2);
        x.name(3, NONE);
        x.name(3, 7);
        x.needs(0, 1, 1, Starts.bits(0, 2));
        x.force(2, Starts.bits(0, 1));
        x.want(0, Starts.bits(1, 2, 3));
        x.digest(0, 0);
        x.needs(0, 3, 2, Starts.bits(1));
        x.solve(0, Starts.PLENTY);
        return x;
    }

    private static LeastChange merged() {
        LeastChange x = found();
        x.merge(Starts.lockOf(1, 1, NONE));
        x.digest(1, 0);
        return x;
    }

    private static LeastChange withoutChoice() {
        LeastChange x = found();
        x.want(2, Starts.bits(0));
        x.want(1, Starts.bits(1));
        x.needs(0, 1, 1, Starts.bits(0));
        return x;
    }

    private static LeastChange neverSolved() {
        LeastChange x = Starts.names(3, 3, 1);
        x.group(0, 1);
        x.want(0, Starts.bits(0, 2));
        x.want(1, Starts.ALL);
        return x;
    }

    private static LeastChange eightNames() {
        LeastChange x = Starts.names(8, 3, 1);
        x.want(7, Starts.bits(0));
        x.group(6, 7);
        x.digest(3, 0);
        x.solve(8, Starts.PLENTY);
        return x;
    }

    private static LeastChange sixtyRows() {
        LeastChange x = Starts.names(2, 3, 1);
        x.want(0, Starts.bits(0));
        x.solve(8, Starts.PLENTY);
        return Starts.fillRows(x);
    }

    // the calls that are refused in them

    private static void add(List<Refused> all, String told, long due, ToLongFunction<LeastChange> call) {
        all.add(new Refused(told, call, due));
    }

    private static List<Refused> refusedAlways(int names, int rows) {
        List<Refused> all = new ArrayList<>();
        addWrongNames(all);
        for (int wrong : new int[] {-1, names, 8, Integer.MIN_VALUE, Integer.MAX_VALUE}) {
            addWithoutName(all, wrong);
        }
        add(all, "solve(-1, 256)", -3, x -> x.solve(-1, 256));
        add(all, "solve(9, 256)", -3, x -> x.solve(9, 256));
        add(all, "solve(8, 0)", -3, x -> x.solve(8, 0));
        add(all, "solve(0, MIN)", -3, x -> x.solve(0, Long.MIN_VALUE));
        add(all, "merge(-1)", -2, x -> x.merge(-1));
        add(all, "merge of one bit more", -2, x -> x.merge(1 << 3 * names));
        add(all, "merge of bits besides", -2, x -> x.merge((2 << 3 * names) - 1));
        for (int wrong : new int[] {-1, rows, 60, Integer.MIN_VALUE, Integer.MAX_VALUE}) {
            add(all, "row(" + wrong + ")", THROWN, x -> rowOrThrown(x, wrong));
        }
        return all;
    }

    private static void addWrongNames(List<Refused> all) {
        add(all, "name(0, 0)", -2, x -> x.name(0, 0));
        add(all, "name(7, 0)", -2, x -> x.name(7, 0));
        add(all, "name(1, -2)", -2, x -> x.name(1, -2));
        add(all, "name(1, 10)", -2, x -> x.name(1, 10));
    }

    private static void addWithoutName(List<Refused> all, int wrong) {
        add(all, "needs(" + wrong + ", ..)", -1, x -> x.needs(wrong, 0, 0, 0));
        add(all, "needs, other " + wrong, -1, x -> x.needs(0, 0, wrong, 0));
        add(all, "want(" + wrong + ", ..)", -1, x -> x.want(wrong, 0));
        add(all, "force(" + wrong + ", ..)", -1, x -> x.force(wrong, 0));
        add(all, "group(" + wrong + ", 0)", -1, x -> x.group(wrong, 0));
        add(all, "group(0, " + wrong + ")", -1, x -> x.group(0, wrong));
        add(all, "digest(" + wrong + ", ..)", -1, x -> x.digest(wrong, 0));
        add(all, "chosen(" + wrong + ")", NONE, x -> x.chosen(wrong));
        add(all, "down(" + wrong + ")", NONE, x -> x.down(wrong));
        add(all, "lock(" + wrong + ", 0)", -1, x -> x.lock(wrong, 0));
    }

    private static List<Refused> refusedWhenFound() {
        List<Refused> all = refusedAlways(3, 4);
        add(all, "needs, version -1", -2, x -> x.needs(0, -1, 1, 0));
        add(all, "needs, version 4 of 4", -2, x -> x.needs(0, 4, 1, 0));
        add(all, "needs, version 3 of 3", -2, x -> x.needs(1, 3, 0, 0));
        add(all, "group(0, 0)", -2, x -> x.group(0, 0));
        add(all, "group(2, 2)", -2, x -> x.group(2, 2));
        add(all, "digest, locked to NONE", -3, x -> x.digest(1, 0));
        add(all, "digest, gone", -3, x -> x.digest(2, 0));
        add(all, "solve(8, 6)", -2, x -> x.solve(8, 6));
        add(all, "solve(1, 3)", -2, x -> x.solve(1, 3));
        add(all, "lock(0, 4)", -2, x -> x.lock(0, 4));
        add(all, "lock(0, -1)", -2, x -> x.lock(0, -1));
        add(all, "chosen(0) asks", 3, x -> x.chosen(0));
        add(all, "down(0) asks", 2, x -> x.down(0));
        add(all, "lock(0, 2) asks", Starts.digestOf(0, 3) % 2147483647L, x -> x.lock(0, 2));
        add(all, "lock(1, 3) asks", 1, x -> x.lock(1, 3));
        add(all, "row(0) asks", 9, x -> rowOrThrown(x, 0));
        add(all, "the same digest again", Starts.digestOf(0, 2), x -> x.digest(0, 0));
        return all;
    }

    private static List<Refused> refusedWithoutChoice() {
        List<Refused> all = refusedAlways(3, 7);
        add(all, "solve(8, 8)", -1, x -> x.solve(8, 8));
        add(all, "solve(0, 1)", -1, x -> x.solve(0, 1));
        add(all, "solve(8, 7)", -2, x -> x.solve(8, 7));
        add(all, "merge(0)", 0, x -> x.merge(0));
        add(all, "merge of other locks", 0, x -> x.merge(Starts.lockOf(3, 2, 6)));
        return all;
    }

    private static List<Refused> refusedWhenNeverSolved() {
        List<Refused> all = refusedAlways(3, 3);
        add(all, "solve(8, 6)", -2, x -> x.solve(8, 6));
        add(all, "solve(1, 3)", -2, x -> x.solve(1, 3));
        add(all, "chosen(0) asks", NONE, x -> x.chosen(0));
        add(all, "the right digest", Starts.digestOf(0, 1), x -> x.digest(0, Starts.digestOf(0, 1)));
        return all;
    }

    private static List<Refused> refusedWithEightNames() {
        List<Refused> all = refusedAlways(8, 2);
        add(all, "a ninth name", -4, x -> x.name(1, -1));
        add(all, "a ninth name, at the other edges", -4, x -> x.name(6, 9));
        add(all, "solve(8, 92)", -2, x -> x.solve(8, 92));
        add(all, "group(7, 7)", -2, x -> x.group(7, 7));
        return all;
    }

    private static List<Refused> refusedWithSixtyRows() {
        List<Refused> all = refusedAlways(2, 60);
        add(all, "needs, full", -4, x -> x.needs(1, 1, 0, 0));
        add(all, "needs of itself, full", -4, x -> x.needs(1, 1, 1, 0));
        add(all, "needs, full, no version", -2, x -> x.needs(1, 3, 0, 0));
        add(all, "want, full", -4, x -> x.want(1, 0));
        add(all, "force, full", -4, x -> x.force(1, 0));
        add(all, "group, full", -4, x -> x.group(0, 1));
        add(all, "group, full, the same", -2, x -> x.group(1, 1));
        return all;
    }

    // the two objects, and what is asked of both

    private static void look(String state, Supplier<LeastChange> start, List<Refused> refused) {
        List<Consumer<Asked>> runs = List.of(RefusedTest::askForFound, RefusedTest::askBySolving,
            RefusedTest::askByRightDigests, RefusedTest::askByWrongDigests, RefusedTest::askByMerging,
            RefusedTest::askByNames, RefusedTest::askByRows);
        for (Refused one : refused) {
            for (int run = 0; run < runs.size(); run++) {
                Asked with = new Asked(start.get());
                CHECK.due(state + ": " + one.told, one.call.applyAsLong(with.object), one.due);
                Asked without = new Asked(start.get());
                runs.get(run).accept(with);
                runs.get(run).accept(without);
                CHECK.due(state + ": run " + run + " after " + one.told + ", answers that differ",
                    with.firstThatDiffers(without), NONE);
            }
        }
    }

    private static long rowOrThrown(LeastChange x, int i) {
        try {
            return x.row(i);
        } catch (ArrayIndexOutOfBoundsException e) {
            return THROWN;
        }
    }

    private static void askForFound(Asked asked) {
        LeastChange x = asked.object;
        for (int i = -1; i <= 8; i++) {
            asked.add(x.chosen(i));
            asked.add(x.down(i));
            for (int what = 0; what < 4; what++) {
                asked.add(x.lock(i, what));
            }
        }
        for (int i = -1; i <= 60; i++) {
            asked.add(rowOrThrown(x, i));
        }
    }

    private static void askBySolving(Asked asked) {
        asked.add(asked.object.solve(8, Long.MAX_VALUE));
        askForFound(asked);
        asked.add(asked.object.solve(0, Long.MAX_VALUE));
        askForFound(asked);
        asked.add(asked.object.solve(8, 7));
        askForFound(asked);
    }

    private static void askByRightDigests(Asked asked) {
        for (int name = 0; name < 8; name++) {
            long digest = asked.object.digest(name, 0);
            asked.add(digest);
            asked.add(asked.object.digest(name, digest));
        }
        askBySolving(asked);
    }

    private static void askByWrongDigests(Asked asked) {
        for (int name = 0; name < 8; name++) {
            asked.add(asked.object.digest(name, 0));
        }
        askBySolving(asked);
    }

    private static void askByMerging(Asked asked) {
        int[] locks = {0, Starts.lockOf(1), Starts.lockOf(2, 0), Starts.lockOf(0, 2, 1), Starts.lockOf(0, 0, 0, 0, 1)};
        for (int lock : locks) {
            asked.add(asked.object.merge(lock));
            askBySolving(asked);
        }
    }

    private static void askByNames(Asked asked) {
        for (int i = 0; i < 9; i++) {
            int name = asked.object.name(1 + i % 6, i - 1);
            asked.add(name);
            asked.add(asked.object.want(name, Starts.ALL));
        }
        askBySolving(asked);
    }

    private static void askByRows(Asked asked) {
        for (int i = 0; i < 61; i++) {
            asked.add(asked.object.force(i % 9, Starts.ALL));
        }
        askBySolving(asked);
    }

    private static final class Asked {
        private final LeastChange object;
        private final List<Long> answers = new ArrayList<>();

        private Asked(LeastChange object) {
            this.object = object;
        }

        private void add(long answer) {
            answers.add(answer);
        }

        private int firstThatDiffers(Asked other) {
            for (int i = 0; i < Math.max(answers.size(), other.answers.size()); i++) {
                if (i >= answers.size() || i >= other.answers.size()
                    || !answers.get(i).equals(other.answers.get(i))) {
                    return i;
                }
            }
            return NONE;
        }
    }
}
