/** Counts the answers that are not the ones that are due, and tells each of them. */
final class Check {
    private final String title;
    private int looked = 0;
    private int wrong = 0;

    Check(String title) {
        this.title = title;
    }

    void due(String call, long got, long want) {
        looked++;
        if (got != want) {
            wrong++;
            System.out.println(title + ": " + call + " answered " + got + ", due is " + want);
        }
    }

    /** The class throws by itself: where the machine throws, its text begins with the index. */
    void dueNoRow(LeastChange x, int i) {
        int thrown = 0;
        try {
            x.row(i);
        } catch (ArrayIndexOutOfBoundsException e) {
            thrown = String.valueOf(e.getMessage()).startsWith("Index") ? 2 : 1;
        }
        due("row(" + i + ") throws ArrayIndexOutOfBoundsException (1 itself, 2 the machine)", thrown, 1);
    }

    boolean isClean() {
        return wrong == 0;
    }

    void end() {
        System.out.println(title + ": " + looked + " answers looked at, " + wrong + " wrong");
        if (wrong != 0 || looked == 0) {
            System.exit(1);
        }
    }
}
