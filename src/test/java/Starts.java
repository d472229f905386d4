/** Objects in the states that several tests begin with. */
final class Starts {
    static final long PLENTY = 256;
    static final long ALL = -1L;

    /** Numbers that lie beyond every bound, those among them that would wrap around to a small one. */
    static final int[] FAR = {Integer.MIN_VALUE, Integer.MIN_VALUE + 1, -256, -8, 64, 256, 1 << 16, 1 << 29,
        Integer.MAX_VALUE - 1, Integer.MAX_VALUE};

    private Starts() {
    }

    static long bits(int... versions) {
        long set = 0;
        for (int version : versions) {
            set |= 1L << version;
        }
        return set;
    }

    static LeastChange names(int count, int versions, int locked) {
        LeastChange x = new LeastChange();
        for (int i = 0; i < count; i++) {
            x.name(versions, locked);
        }
        return x;
    }

    /** Rows that every choice fulfils, until there are 60. */
    static LeastChange fillRows(LeastChange x) {
        for (int i = 0; i < 60; i++) {
            x.force(0, ALL);
        }
        return x;
    }

    static long digestOf(int name, int version) {
        return ((name + 1L) * 1000003L + version + 1L) * 2654435761L;
    }

    static int lockOf(int... versions) {
        int lock = 0;
        for (int name = 0; name < versions.length; name++) {
            lock |= versions[name] + 1 << 3 * name;
        }
        return lock;
    }
}
