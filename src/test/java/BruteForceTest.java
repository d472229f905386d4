import java.util.ArrayList;
import java.util.List;
import java.util.Random;

/** Long mixed runs, beside a model that goes through every choice and every row as the document's words say. */
public final class BruteForceTest {
    private static final int RUNS = 1500;
    private static final int CALLS = 120;

    public static void main(String[] args) {
        Check check = new Check("BruteForceTest");
        for (int run = 0; run < RUNS && check.isClean(); run++) {
            new BruteForceTest(check, run).play();
        }
        check.end();
    }

    private final Check check;
    private final Random random;
    private final int mostNames;
    private final int mostVersions;
    private final int namesFirst;
    private final LeastChange real = new LeastChange();
    private final Model model = new Model();
    private final StringBuilder told = new StringBuilder();

    private BruteForceTest(Check check, int run) {
        this.check = check;
        this.random = new Random(run);
        int[][] sizes = {{3, 6}, {4, 5}, {5, 3}, {8, 1}, {6, 2}};
        int[] size = sizes[run % sizes.length];
        this.mostNames = size[0];
        this.mostVersions = size[1];
        this.namesFirst = random.nextBoolean() ? mostNames : 2;
    }

    private void play() {
        for (int call = 0; call < CALLS && check.isClean(); call++) {
            int kind = model.names() < namesFirst ? random.nextInt(3) : random.nextInt(40);
            if (kind <= 2 && (model.names() < mostNames || kind == 0)) {
                callName();
            } else if (kind <= 14) {
                callRow();
            } else if (kind <= 24) {
                callSolve();
                lookAtFound();
            } else if (kind <= 30) {
                callDigest();
            } else if (kind <= 34) {
                callMerge();
                lookAtFound();
            }
        }
    }

    private void look(String call, long got, long want) {
        told.append(call).append(" = ").append(want).append('\n');
        boolean before = check.isClean();
        check.due(call, got, want);
        if (before && !check.isClean()) {
            System.out.println(told);
        }
    }

    private int someName() {
        return random.nextInt(12) == 0 ? random.nextInt(12) - 2 : random.nextInt(Math.max(1, model.names()));
    }

    /** Mostly sets of many versions: else nearly every run soon has no right choice any more. */
    private long someSet() {
        long set = random.nextLong();
        return random.nextInt(4) == 0 ? set : set | random.nextLong() | random.nextLong();
    }

    private void callName() {
        int versions = model.names() >= mostNames ? 0 : 1 + random.nextInt(mostVersions);
        int locked = random.nextInt(5) == 0 ? random.nextInt(13) - 2 : random.nextInt(versions + 2) - 1;
        look("name(" + versions + ", " + locked + ")", real.name(versions, locked), model.name(versions, locked));
    }

    private void callRow() {
        int name = someName();
        int other = someName();
        int version = random.nextInt(mostVersions + 1) - (random.nextInt(10) == 0 ? 1 : 0);
        long set = someSet();
        int kind = random.nextInt(12);
        if (kind < 7) {
            look("needs(" + name + ", " + version + ", " + other + ", " + set + ")",
                real.needs(name, version, other, set), model.needs(name, version, other, set));
        } else if (kind < 8) {
            look("want(" + name + ", " + set + ")", real.want(name, set), model.want(name, set));
        } else if (kind < 10) {
            look("force(" + name + ", " + set + ")", real.force(name, set), model.force(name, set));
        } else {
            look("group(" + name + ", " + other + ")", real.group(name, other), model.group(name, other));
        }
        for (int i = 0; i < model.rows.size(); i++) {
            look("row(" + i + ")", real.row(i), model.row(i));
        }
        check.dueNoRow(real, model.rows.size());
    }

    private void callSolve() {
        int most = random.nextInt(3) == 0 ? random.nextInt(11) - 1 : random.nextInt(4);
        long steps = random.nextInt(3) == 0 ? random.nextInt(30) : 300;
        look("solve(" + most + ", " + steps + ")", real.solve(most, steps), model.solve(most, steps));
    }

    private void callDigest() {
        int name = someName();
        long d = random.nextInt(3) == 0 ? 5 : model.digestNow(name);
        look("digest(" + name + ", " + d + ")", real.digest(name, d), model.digest(name, d));
    }

    private void callMerge() {
        int lock = 0;
        for (int name = 0; name < model.names(); name++) {
            int code = random.nextInt(8) == 0 ? random.nextInt(8) : random.nextInt(mostVersions + 1);
            lock |= code << 3 * name;
        }
        lock |= random.nextInt(10) == 0 ? 1 << random.nextInt(32) : 0;
        look("merge(" + lock + ")", real.merge(lock), model.merge(lock));
    }

    private void lookAtFound() {
        for (int name = -1; name <= 8; name++) {
            look("chosen(" + name + ")", real.chosen(name), model.chosen(name));
            look("down(" + name + ")", real.down(name), model.down(name));
            for (int what = -1; what <= 4; what++) {
                look("lock(" + name + ", " + what + ")", real.lock(name, what), model.lock(name, what));
            }
        }
    }

    /** The document word by word: slow, and with none of the short cuts of the class. */
    private static final class Model {
        private static final int NONE = -1;

        private record Row(int kind, int name, int version, int other, long set) {
        }

        private final List<Integer> versions = new ArrayList<>();
        private final List<Row> rows = new ArrayList<>();
        private List<Integer> locked = new ArrayList<>();
        private final boolean[][] barred = new boolean[8][6];
        private List<Integer> found = new ArrayList<>();
        private List<Integer> foundHome = new ArrayList<>();

        int names() {
            return versions.size();
        }

        private boolean there(int name) {
            return name >= 0 && name < names();
        }

        int name(int count, int lock) {
            if (count < 1 || count > 6 || lock < -1 || lock > 9) {
                return -2;
            }
            if (names() == 8) {
                return -4;
            }
            versions.add(count);
            locked.add(lock);
            return names() - 1;
        }

        private int add(Row row) {
            if (rows.size() == 60) {
                return -4;
            }
            rows.add(row);
            return rows.size() - 1;
        }

        int needs(int name, int version, int other, long set) {
            if (!there(name) || !there(other)) {
                return -1;
            }
            return version < 0 || version >= versions.get(name) ? -2 : add(new Row(0, name, version, other, set));
        }

        int want(int name, long set) {
            return there(name) ? add(new Row(1, name, 0, 0, set)) : -1;
        }

        int force(int name, long set) {
            return there(name) ? add(new Row(2, name, 0, 0, set)) : -1;
        }

        int group(int name, int other) {
            if (!there(name) || !there(other)) {
                return -1;
            }
            return name == other ? -2 : add(new Row(3, name, 0, other, 0));
        }

        int row(int i) {
            Row row = rows.get(i);
            return row.kind * 512 + row.name * 64 + row.version * 8 + row.other;
        }

        private static boolean in(int version, long set) {
            return version != NONE && (set & 1L << version) != 0;
        }

        private static boolean holds(Row row, List<Integer> choice) {
            int given = choice.get(row.name);
            int other = choice.get(row.other);
            switch (row.kind) {
                case 0:
                    return given != row.version || in(other, row.set);
                case 1:
                    return in(given, row.set);
                case 2:
                    return given == NONE || in(given, row.set);
                default:
                    return given == NONE || other == NONE || given == other;
            }
        }

        private boolean right(List<Integer> choice) {
            for (int name = 0; name < choice.size(); name++) {
                if (choice.get(name) != NONE && barred[name][choice.get(name)]) {
                    return false;
                }
            }
            for (Row row : rows) {
                if (!holds(row, choice)) {
                    return false;
                }
            }
            return true;
        }

        private static int changed(List<Integer> choice, List<Integer> home) {
            int count = 0;
            for (int name = 0; name < choice.size(); name++) {
                count += choice.get(name).equals(home.get(name)) ? 0 : 1;
            }
            return count;
        }

        private static boolean isDown(int given, int home) {
            return given != NONE && home != NONE && given < home;
        }

        private static int downs(List<Integer> choice, List<Integer> home) {
            int count = 0;
            for (int name = 0; name < choice.size(); name++) {
                count += isDown(choice.get(name), home.get(name)) ? 1 : 0;
            }
            return count;
        }

        private List<Integer> order(int name, List<Integer> home) {
            List<Integer> order = new ArrayList<>();
            if (home.get(name) < versions.get(name)) {
                order.add(home.get(name));
            }
            for (int version = versions.get(name) - 1; version >= NONE; version--) {
                if (!order.contains(version)) {
                    order.add(version);
                }
            }
            return order;
        }

        /** All right choices, the one that comes first first. */
        private void collect(List<Integer> begun, List<Integer> home, List<List<Integer>> all) {
            if (begun.size() == names()) {
                if (right(begun)) {
                    all.add(new ArrayList<>(begun));
                }
                return;
            }
            for (int version : order(begun.size(), home)) {
                begun.add(version);
                collect(begun, home, all);
                begun.remove(begun.size() - 1);
            }
        }

        private List<List<Integer>> rights(List<Integer> home) {
            List<List<Integer>> all = new ArrayList<>();
            collect(new ArrayList<>(), home, all);
            return all;
        }

        private static List<Integer> best(List<List<Integer>> all, List<Integer> home) {
            List<Integer> best = all.get(0);
            for (List<Integer> choice : all) {
                int fewer = changed(choice, home) - changed(best, home);
                if (fewer < 0 || fewer == 0 && downs(choice, home) < downs(best, home)) {
                    best = choice;
                }
            }
            return best;
        }

        private int tries(int most) {
            int count = 0;
            for (int names = 0; names < 1 << names(); names++) {
                count += Integer.bitCount(names) <= most ? 1 : 0;
            }
            return count;
        }

        int solve(int most, long steps) {
            if (most < 0 || most > 8 || steps < 1) {
                return -3;
            }
            List<List<Integer>> all = rights(locked);
            List<Integer> best = all.isEmpty() ? null : best(all, locked);
            boolean near = best != null && changed(best, locked) <= most;
            if (tries(near ? changed(best, locked) : most) > steps) {
                return -2;
            }
            if (best == null) {
                return -1;
            }
            found = near ? best : all.get(0);
            foundHome = new ArrayList<>(locked);
            return changed(found, foundHome);
        }

        int chosen(int name) {
            return name >= 0 && name < found.size() ? found.get(name) : NONE;
        }

        int down(int i) {
            List<Integer> downs = new ArrayList<>();
            for (int name = 0; name < found.size(); name++) {
                if (isDown(found.get(name), foundHome.get(name))) {
                    downs.add(name);
                }
            }
            return i >= 0 && i < downs.size() ? downs.get(i) : NONE;
        }

        int lock(int i, int what) {
            List<Integer> given = new ArrayList<>();
            for (int name = 0; name < found.size(); name++) {
                if (found.get(name) != NONE) {
                    given.add(name);
                }
            }
            if (i < 0 || i >= given.size()) {
                return -1;
            }
            int name = given.get(i);
            int version = found.get(name);
            int[] answers = {name, version, (int) (digestOf(name, version) % 2147483647L),
                version == foundHome.get(name) ? 0 : 1};
            return what < 0 || what > 3 ? -2 : answers[what];
        }

        private static long digestOf(long name, long version) {
            return ((name + 1) * 1000003 + version + 1) * 2654435761L;
        }

        long digestNow(int name) {
            return there(name) ? digestOf(name, locked.get(name)) : 0;
        }

        long digest(int name, long d) {
            if (!there(name)) {
                return -1;
            }
            int version = locked.get(name);
            if (version == NONE || version >= versions.get(name)) {
                return -3;
            }
            barred[name][version] = d != digestOf(name, version);
            return digestOf(name, version);
        }

        int merge(int lock) {
            if (lock < 0 || lock >= 1L << 3 * names()) {
                return -2;
            }
            List<Integer> home = new ArrayList<>();
            for (int name = 0; name < names(); name++) {
                home.add(Math.max(locked.get(name), (lock >> 3 * name) % 8 - 1));
            }
            List<List<Integer>> all = rights(home);
            if (all.isEmpty()) {
                return 0;
            }
            found = best(all, home);
            foundHome = home;
            for (int name = 0; name < names(); name++) {
                if (!found.get(name).equals(locked.get(name))) {
                    barred[name] = new boolean[6];
                }
            }
            locked = new ArrayList<>(found);
            return 1;
        }
    }
}
