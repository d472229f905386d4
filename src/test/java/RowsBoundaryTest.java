/** The sentences of the promises 1 to 6 and 13 (names and rows) that name a boundary, each by a test of its own. */
public final class RowsBoundaryTest {
    private static final int NONE = LeastChange.NONE;
    private static final Check CHECK = new Check("RowsBoundaryTest");

    public static void main(String[] args) {
        newObjectHasNoNames();
        newObjectHasNoRows();
        newObjectSharesNothing();
        nameVersionsOneToSix();
        nameLockedNoneToNine();
        nameEighthAndNinth();
        nameFirstOfThese();
        needsWithoutName();
        needsWithoutOther();
        needsWithoutVersion();
        needsFull();
        needsFirstOfThese();
        wantWithoutName();
        wantFull();
        forceWithoutName();
        forceFull();
        groupWithoutName();
        groupOfTheSame();
        groupFull();
        groupFirstOfThese();
        rowsOfEachKind();
        rowsLeastAndGreatest();
        rowBelowTheFirst();
        rowBeyondTheLast();
        CHECK.end();
    }

    private static void due(String call, long got, long want) {
        CHECK.due(call, got, want);
    }

    private static LeastChange full() {
        return Starts.fillRows(Starts.names(2, 2, 0));
    }

    // promise 1: "No NAMES, no ROWS."

    private static void newObjectHasNoNames() {
        LeastChange x = new LeastChange();
        due("new: needs(0, 0, 0, 1)", x.needs(0, 0, 0, 1), -1);
        due("new: want(0, 1)", x.want(0, 1), -1);
        due("new: force(0, 1)", x.force(0, 1), -1);
        due("new: group(0, 0)", x.group(0, 0), -1);
        due("new: group(0, 1)", x.group(0, 1), -1);
        due("new: digest(0, 0)", x.digest(0, 0), -1);
        due("new: chosen(0)", x.chosen(0), NONE);
        due("new: merge(1)", x.merge(1), -2);
        due("new: the first name", x.name(1, 0), 0);
    }

    private static void newObjectHasNoRows() {
        LeastChange x = new LeastChange();
        CHECK.dueNoRow(x, 0);
        x.name(1, 0);
        CHECK.dueNoRow(x, 0);
        due("new: the first row", x.want(0, 1), 0);
    }

    private static void newObjectSharesNothing() {
        LeastChange other = Starts.fillRows(Starts.names(8, 6, 2));
        other.digest(0, 1);
        other.solve(8, Starts.PLENTY);
        other.merge(0);
        LeastChange x = new LeastChange();
        CHECK.dueNoRow(x, 0);
        due("beside another: chosen(0)", x.chosen(0), NONE);
        due("beside another: lock(0, 0)", x.lock(0, 0), -1);
        due("beside another: name", x.name(6, 2), 0);
        due("beside another: row", x.want(0, Starts.ALL), 0);
        due("beside another: nothing is barred", x.solve(0, 1), 0);
        due("beside another: chosen", x.chosen(0), 2);
        due("the other stays: lock(7, 0)", other.lock(7, 0), 7);
        due("the other stays: row(59)", other.row(59), 1024);
    }

    // promise 2: "- 2: versions is not 1 .. 6, or locked not - 1 .. 9; - 4: there are 8. The first of these."

    private static void nameVersionsOneToSix() {
        due("name(-1, 0)", new LeastChange().name(-1, 0), -2);
        due("name(0, 0)", new LeastChange().name(0, 0), -2);
        due("name(1, 0)", new LeastChange().name(1, 0), 0);
        due("name(6, 0)", new LeastChange().name(6, 0), 0);
        due("name(7, 0)", new LeastChange().name(7, 0), -2);
        for (int far : Starts.FAR) {
            due("name(" + far + ", 0)", new LeastChange().name(far, 0), -2);
        }
    }

    private static void nameLockedNoneToNine() {
        due("name(1, -2)", new LeastChange().name(1, -2), -2);
        due("name(1, -1)", new LeastChange().name(1, -1), 0);
        due("name(1, 0)", new LeastChange().name(1, 0), 0);
        due("name(1, 9)", new LeastChange().name(1, 9), 0);
        due("name(1, 10)", new LeastChange().name(1, 10), -2);
        for (int far : Starts.FAR) {
            due("name(1, " + far + ")", new LeastChange().name(1, far), -2);
        }
    }

    private static void nameEighthAndNinth() {
        LeastChange x = Starts.names(7, 2, 0);
        due("the eighth name", x.name(2, 0), 7);
        due("a ninth name", x.name(2, 0), -4);
        due("a ninth name, at the edges", x.name(6, 9), -4);
        due("a ninth name, at the other edges", x.name(1, -1), -4);
    }

    private static void nameFirstOfThese() {
        LeastChange x = Starts.names(8, 2, 0);
        due("full: name(0, 0)", x.name(0, 0), -2);
        due("full: name(7, 0)", x.name(7, 0), -2);
        due("full: name(1, -2)", x.name(1, -2), -2);
        due("full: name(1, 10)", x.name(1, 10), -2);
    }

    // promise 3: "- 1: there is no such NAME, or other; - 2: it is none of its VERSIONS; - 4: there are 60 ROWS."

    private static void needsWithoutName() {
        LeastChange x = Starts.names(2, 2, 0);
        due("needs(-1, ..)", x.needs(-1, 0, 0, 1), -1);
        due("needs(2, ..)", x.needs(2, 0, 0, 1), -1);
        due("needs(0, ..)", x.needs(0, 0, 0, 1), 0);
        due("needs(1, ..)", x.needs(1, 0, 0, 1), 1);
        for (int far : Starts.FAR) {
            due("needs(" + far + ", ..)", x.needs(far, 0, 0, 1), -1);
        }
        LeastChange eight = Starts.names(8, 2, 0);
        due("needs(7, ..) of 8", eight.needs(7, 0, 0, 1), 0);
        due("needs(8, ..) of 8", eight.needs(8, 0, 0, 1), -1);
    }

    private static void needsWithoutOther() {
        LeastChange x = Starts.names(2, 2, 0);
        due("needs, other -1", x.needs(0, 0, -1, 1), -1);
        due("needs, other 2", x.needs(0, 0, 2, 1), -1);
        due("needs, other 0", x.needs(1, 0, 0, 1), 0);
        due("needs, other 1", x.needs(0, 0, 1, 1), 1);
        for (int far : Starts.FAR) {
            due("needs, other " + far, x.needs(0, 0, far, 1), -1);
        }
        LeastChange eight = Starts.names(8, 2, 0);
        due("needs, other 7 of 8", eight.needs(0, 0, 7, 1), 0);
        due("needs, other 8 of 8", eight.needs(0, 0, 8, 1), -1);
    }

    /** The VERSIONS are those of the NAME, not those of the other one. */
    private static void needsWithoutVersion() {
        LeastChange x = new LeastChange();
        x.name(2, 0);
        x.name(6, 0);
        due("needs, version -1", x.needs(0, -1, 1, 1), -2);
        due("needs, version 2 of 2", x.needs(0, 2, 1, 1), -2);
        due("needs, version 6 of 6", x.needs(1, 6, 0, 1), -2);
        due("needs, version 0", x.needs(0, 0, 1, 1), 0);
        due("needs, version 1 of 2", x.needs(0, 1, 1, 1), 1);
        due("needs, version 5 of 6", x.needs(1, 5, 0, 1), 2);
        for (int far : Starts.FAR) {
            due("needs, version " + far, x.needs(0, far, 1, 1), -2);
        }
    }

    private static void needsFull() {
        LeastChange x = Starts.names(1, 1, 0);
        for (int i = 0; i < 60; i++) {
            due("needs, row " + i, x.needs(0, 0, 0, 1), i);
        }
        due("needs, full", x.needs(0, 0, 0, 0), -4);
        due("needs, full: the row is not there", x.solve(0, 1), 0);
    }

    private static void needsFirstOfThese() {
        LeastChange x = full();
        due("full: no name, no version", x.needs(2, 2, 0, 1), -1);
        due("full: no other, no version", x.needs(0, 2, 2, 1), -1);
        due("full: no name", x.needs(-1, 0, 0, 1), -1);
        due("full: no other", x.needs(0, 0, -1, 1), -1);
        due("full: no version", x.needs(0, 2, 1, 1), -2);
        due("full: version -1", x.needs(0, -1, 1, 1), -2);
        LeastChange room = Starts.names(2, 2, 0);
        due("no name, no version", room.needs(2, 2, 0, 1), -1);
        due("no other, no version", room.needs(0, -1, 2, 1), -1);
    }

    // promise 4: "- 1: there is no such NAME; - 4: there are 60."

    private static void wantWithoutName() {
        LeastChange x = Starts.names(2, 2, 0);
        due("want(-1, ..)", x.want(-1, 1), -1);
        due("want(2, ..)", x.want(2, 1), -1);
        due("want(0, ..)", x.want(0, 1), 0);
        due("want(1, ..)", x.want(1, 1), 1);
        for (int far : Starts.FAR) {
            due("want(" + far + ", ..)", x.want(far, 1), -1);
        }
        LeastChange eight = Starts.names(8, 2, 0);
        due("want(7, ..) of 8", eight.want(7, 1), 0);
        due("want(8, ..) of 8", eight.want(8, 1), -1);
    }

    private static void wantFull() {
        LeastChange x = Starts.names(1, 1, 0);
        for (int i = 0; i < 60; i++) {
            due("want, row " + i, x.want(0, 1), i);
        }
        due("want, full", x.want(0, 0), -4);
        due("want, full: the row is not there", x.solve(0, 1), 0);
        due("want, full, no name", x.want(1, 1), -1);
    }

    // promise 5: "A ROW 2, likewise."

    private static void forceWithoutName() {
        LeastChange x = Starts.names(2, 2, 0);
        due("force(-1, ..)", x.force(-1, 1), -1);
        due("force(2, ..)", x.force(2, 1), -1);
        due("force(0, ..)", x.force(0, 1), 0);
        due("force(1, ..)", x.force(1, 1), 1);
        for (int far : Starts.FAR) {
            due("force(" + far + ", ..)", x.force(far, 1), -1);
        }
        LeastChange eight = Starts.names(8, 2, 0);
        due("force(7, ..) of 8", eight.force(7, 1), 0);
        due("force(8, ..) of 8", eight.force(8, 1), -1);
    }

    private static void forceFull() {
        LeastChange x = Starts.names(1, 1, 0);
        for (int i = 0; i < 60; i++) {
            due("force, row " + i, x.force(0, 1), i);
        }
        due("force, full", x.force(0, 0), -4);
        due("force, full: the row is not there", x.solve(0, 1), 0);
        due("force, full, no name", x.force(1, 1), -1);
    }

    // promise 6: "- 1: one is not there; - 2: they are the same one; - 4. The first of these."

    private static void groupWithoutName() {
        LeastChange x = Starts.names(2, 2, 0);
        due("group(-1, 0)", x.group(-1, 0), -1);
        due("group(2, 0)", x.group(2, 0), -1);
        due("group(0, -1)", x.group(0, -1), -1);
        due("group(0, 2)", x.group(0, 2), -1);
        due("group(0, 1)", x.group(0, 1), 0);
        due("group(1, 0)", x.group(1, 0), 1);
        for (int far : Starts.FAR) {
            due("group(" + far + ", 0)", x.group(far, 0), -1);
            due("group(0, " + far + ")", x.group(0, far), -1);
        }
        LeastChange eight = Starts.names(8, 2, 0);
        due("group(7, 6) of 8", eight.group(7, 6), 0);
        due("group(6, 7) of 8", eight.group(6, 7), 1);
        due("group(8, 7) of 8", eight.group(8, 7), -1);
        due("group(7, 8) of 8", eight.group(7, 8), -1);
    }

    private static void groupOfTheSame() {
        LeastChange x = Starts.names(8, 2, 0);
        for (int name = 0; name < 8; name++) {
            due("group(" + name + ", " + name + ")", x.group(name, name), -2);
        }
        CHECK.dueNoRow(x, 0);
    }

    private static void groupFull() {
        LeastChange x = new LeastChange();
        x.name(2, 0);
        x.name(2, 1);
        x.name(2, 0);
        for (int i = 0; i < 60; i++) {
            due("group, row " + i, x.group(0, 2), i);
        }
        due("group, full", x.group(0, 1), -4);
        due("group, full: the row is not there", x.solve(0, 1), 0);
    }

    private static void groupFirstOfThese() {
        LeastChange x = full();
        due("full: group(2, 2)", x.group(2, 2), -1);
        due("full: group(-1, -1)", x.group(-1, -1), -1);
        due("full: group(0, 2)", x.group(0, 2), -1);
        due("full: group(1, 1)", x.group(1, 1), -2);
        LeastChange room = Starts.names(2, 2, 0);
        due("group(2, 2)", room.group(2, 2), -1);
        due("group(-1, -1)", room.group(-1, -1), -1);
    }

    // promise 13: "((kind * 8 + NAME) * 8 + VERSION) * 8 + other NAME (0 for what a kind doesn't tell)"

    private static void rowsOfEachKind() {
        LeastChange x = Starts.names(8, 6, 0);
        x.needs(3, 4, 5, Starts.ALL);
        x.want(3, Starts.ALL);
        x.force(3, Starts.ALL);
        x.group(3, 5);
        due("row of a need", x.row(0), 3 * 64 + 4 * 8 + 5);
        due("row of a want", x.row(1), 512 + 3 * 64);
        due("row of a force", x.row(2), 1024 + 3 * 64);
        due("row of a group", x.row(3), 1536 + 3 * 64 + 5);
    }

    private static void rowsLeastAndGreatest() {
        LeastChange x = Starts.names(8, 6, 0);
        x.needs(0, 0, 0, 0);
        x.needs(7, 5, 7, 0);
        x.want(0, 0);
        x.want(7, 0);
        x.force(0, 0);
        x.force(7, 0);
        x.group(0, 1);
        x.group(7, 6);
        int[] due = {0, 495, 512, 960, 1024, 1472, 1537, 1990};
        for (int i = 0; i < due.length; i++) {
            due("row(" + i + ")", x.row(i), due[i]);
        }
    }

    /** "ArrayIndexOutOfBoundsException: there is none such." */
    private static void rowBelowTheFirst() {
        LeastChange x = full();
        CHECK.dueNoRow(x, -1);
        CHECK.dueNoRow(x, -60);
        for (int far : Starts.FAR) {
            CHECK.dueNoRow(x, far);
        }
        due("row(0) of 60", x.row(0), 1024);
    }

    private static void rowBeyondTheLast() {
        LeastChange x = Starts.names(1, 1, 0);
        for (int count = 0; count < 60; count++) {
            CHECK.dueNoRow(x, count);
            x.force(0, 1);
            due("row(" + count + ") is there", x.row(count), 1024);
        }
        CHECK.dueNoRow(x, 60);
        x.force(0, 1);
        CHECK.dueNoRow(x, 60);
    }
}
