/** The calls that README.md shows, line by line, answer what it writes beside them. */
public final class ReadmeTest {
    private static final Check CHECK = new Check("ReadmeTest");

    public static void main(String[] args) {
        LeastChange x = new LeastChange();
        int app = x.name(3, 0);
        int lib = x.name(3, 0);
        int log = x.name(2, 1);
        due("name app", app, 0);
        due("name lib", lib, 1);
        due("name log", log, 2);
        askForAChoice(x, app, lib);
        barAndMerge(x, lib, log);
        CHECK.end();
    }

    private static void due(String call, long got, long want) {
        CHECK.due(call, got, want);
    }

    private static void askForAChoice(LeastChange x, int app, int lib) {
        due("want(app, 1L << 1)", x.want(app, 1L << 1), 0);
        due("needs(app, 1, lib, 1L << 2)", x.needs(app, 1, lib, 1L << 2), 1);
        due("solve(8, 256)", x.solve(8, 256), 2);
        due("chosen(lib)", x.chosen(lib), 2);
        due("lock(0, 0)", x.lock(0, 0), 0);
        due("lock(0, 1)", x.lock(0, 1), 1);
        due("lock(0, 3)", x.lock(0, 3), 1);
        due("lock(2, 3)", x.lock(2, 3), 0);
        due("down(0)", x.down(0), -1);
    }

    private static void barAndMerge(LeastChange x, int lib, int log) {
        long right = x.digest(log, 0);
        due("digest(log, 0)", right, 7963336481793371L);
        due("solve(8, 256), barred", x.solve(8, 256), 3);
        due("chosen(log), barred", x.chosen(log), -1);
        due("digest(log, right)", x.digest(log, right), right);
        due("merge(1 << 3 * lib)", x.merge(1 << 3 * lib), 1);
        due("solve(0, 1)", x.solve(0, 1), 0);
    }
}
