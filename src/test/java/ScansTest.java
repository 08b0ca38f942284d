/** Promises 19 to 27: scans, the one reading, and the memory of groups. */
public final class ScansTest {
    private static final Checks CHECKS = new Checks();

    public static void main(String[] args) {
        openNumbers();
        openExceptions();
        openLimits();
        withoutChunks();
        readSteps();
        readGoesRound();
        readBesideGrowth();
        readExceptions();
        rowsOfItsMoment();
        boundsOfTheLook();
        chunksReadOnce();
        skippedChunks();
        doneScans();
        takeBackSpills();
        takeBackAtOnce();
        takeBackExceptions();
        spillsByMostGroups();
        partsOfNegativeKeys();
        partOfMissingKey();
        noKeyIsOnePart();
        groupsThatAreThere();
        askingExceptions();
        CHECKS.end("ScansTest");
    }

    private static GranaryPartition loaded(int many, int first, int step, int turn) {
        return RowsTest.loaded(many, first, step, turn);
    }

    /** Rows with the numbers 0 and up as their column 0, and the filter 0 that chooses all of them. */
    private static GranaryPartition rising(int many) {
        GranaryPartition store = new GranaryPartition();
        for (int rows = 0; rows < many; rows += 16) {
            store.load(Math.min(16, many - rows), rows, 1, 999);
        }
        store.compare('>', 0, -999);
        return store;
    }

    private static GranaryPartition ofKeys(Integer... keys) {
        GranaryPartition store = loaded(keys.length, 0, 0, 1);
        for (int row = 0; row < keys.length; row++) {
            if (keys[row] == null) {
                store.clear(row, 0);
            } else {
                store.set(row, 0, keys[row]);
            }
        }
        store.compare('=', 2, 500);
        store.join('n', 0, 0);
        return store;
    }

    private static void openNumbers() {
        GranaryPartition store = rising(40);
        CHECKS.due("19: first", 0, () -> store.open(0, -1, 0, 1));
        CHECKS.due("19: second", 1, () -> store.open(0, 3, 3, 6));
        CHECKS.due("19: is open", false, () -> store.isDone(1));
        store.read(3);
        CHECKS.due("19: third", 2, () -> store.open(0, 0, 2, 3));
    }

    private static void openExceptions() {
        GranaryPartition store = rising(16);
        CHECKS.element("19: filter below", () -> store.open(-1, 0, 0, 1));
        CHECKS.element("19: filter above", () -> store.open(1, 0, 0, 1));
        CHECKS.element("19: the filter comes first", () -> store.open(1, 4, 4, 7));
        int[][] wrong = {{-2, 0, 1}, {4, 0, 1}, {0, -1, 1}, {0, 4, 1}, {0, 0, 0}, {0, 0, 7}, {-1, -1, 1},
            {Integer.MIN_VALUE, 0, 1}, {0, Integer.MAX_VALUE, 1}, {0, 0, -5}};
        for (int[] a : wrong) {
            CHECKS.argument("19: out of range", () -> store.open(0, a[0], a[1], a[2]));
        }
        for (int i = 0; i < 4; i++) {
            store.open(0, 0, 0, 1);
        }
        CHECKS.element("19: the filter comes first", () -> store.open(1, 0, 0, 1));
        CHECKS.argument("19: the argument comes ahead of the state", () -> store.open(0, 4, 0, 1));
        CHECKS.state("19: four are open", () -> store.open(0, 0, 0, 1));
        store.read(1);
        CHECKS.due("19: none is open", 4, () -> store.open(0, 0, 0, 1));
    }

    private static void openLimits() {
        GranaryPartition store = rising(16);
        for (int i = 0; i < 40; i++) {
            int due = i;
            CHECKS.due("19: number", due, () -> store.open(0, 0, 0, 1));
            store.read(1);
        }
        CHECKS.state("19: there have been 40", () -> store.open(0, 0, 0, 1));
        CHECKS.argument("19: the argument comes first", () -> store.open(0, 0, 0, 0));
        CHECKS.due("19: all are done", true, () -> store.isDone(39));
    }

    private static void withoutChunks() {
        GranaryPartition store = new GranaryPartition();
        store.compare('m', 0, 0);
        for (int i = 0; i < 6; i++) {
            store.open(0, 0, 0, 1);
        }
        CHECKS.due("19: done at once", true, () -> store.isDone(5));
        CHECKS.due("19: no groups", 0, () -> store.groups(5));
        CHECKS.due("19: kept", true, () -> store.isKept(5));
        CHECKS.due("19: three are kept", true, () -> store.isKept(3));
        CHECKS.due("19: three were done behind it", false, () -> store.isKept(2));
        CHECKS.due("20: none is open", 0, () -> store.read(40));
        CHECKS.due("25: nothing to skip", 0, () -> store.skipped(0));
    }

    private static void readSteps() {
        GranaryPartition store = rising(40);
        CHECKS.due("20: none is open", 0, () -> store.read(1));
        CHECKS.due("23: stays", 0, store::position);
        store.open(0, -1, 0, 1);
        CHECKS.due("20: one", 1, () -> store.read(1));
        CHECKS.due("23: one on", 1, store::position);
        CHECKS.due("20: as long as scans are open", 2, () -> store.read(40));
        CHECKS.due("23: round", 0, store::position);
        CHECKS.due("20: none is open any more", 0, () -> store.read(40));
        CHECKS.due("24: three", 3L, store::chunksRead);
    }

    private static void readGoesRound() {
        GranaryPartition store = rising(48);
        store.open(0, -1, 0, 1);
        store.read(2);
        store.open(0, -1, 0, 1);
        CHECKS.due("20: the first one is done", 1, () -> store.read(1));
        CHECKS.due("22: done", true, () -> store.isDone(0));
        CHECKS.due("22: not done", false, () -> store.isDone(1));
        CHECKS.due("23: at 0 again", 0, store::position);
        CHECKS.due("20: the second one joins in", 2, () -> store.read(9));
        CHECKS.due("23: where it ended", 2, store::position);
        CHECKS.due("24: the one chunk was read once", 5L, store::chunksRead);
        CHECKS.due("30: all rows", 48, () -> store.total(1, 0, 0));
    }

    private static void readBesideGrowth() {
        GranaryPartition store = rising(32);
        store.open(0, -1, 0, 1);
        store.read(1);
        store.open(0, -1, 0, 1);
        store.load(16, 32, 1, 999);
        store.read(1);
        CHECKS.due("22: it is not of the new chunk", true, () -> store.isDone(0));
        CHECKS.due("23: behind the last one there is now", 2, store::position);
        CHECKS.due("20: a step that none looks at", 1, () -> store.read(1));
        CHECKS.due("24: reads nothing", 2L, store::chunksRead);
        CHECKS.due("22: it has not looked at all", false, () -> store.isDone(1));
        CHECKS.due("20: now it has", 1, () -> store.read(40));
        CHECKS.due("30: 32 rows", 32, () -> store.total(1, 0, 0));
        CHECKS.due("23: at 1", 1, store::position);
    }

    private static void readExceptions() {
        GranaryPartition store = rising(16);
        for (int steps : new int[] {0, 41, -1, Integer.MIN_VALUE, Integer.MAX_VALUE}) {
            CHECKS.argument("20: steps", () -> store.read(steps));
        }
        CHECKS.due("20: 40", 0, () -> store.read(40));
    }

    private static void rowsOfItsMoment() {
        GranaryPartition store = rising(20);
        store.remove(0);
        store.open(0, -1, 0, 1);
        store.set(1, 0, 500);
        store.clear(2, 0);
        store.remove(3);
        store.load(1, 700, 0, 999);
        store.open(0, -1, 0, 1);
        store.read(9);
        CHECKS.due("19: rows of the first moment", 19, () -> store.total(0, 0, 0));
        CHECKS.due("19: sum of the first moment", 190, () -> store.total(0, 0, 2));
        CHECKS.due("19: rows of the second moment", 18, () -> store.total(1, 0, 0));
        CHECKS.due("19: sum of the second moment", 190 - 1 - 2 - 3 + 500 + 700, () -> store.total(1, 0, 2));
    }

    private static void boundsOfTheLook() {
        GranaryPartition store = rising(32);
        store.compare('=', 0, 500);
        store.open(1, -1, 0, 1);
        store.set(0, 0, 500);
        store.read(2);
        CHECKS.due("25: the bounds are those of the look", 1, () -> store.skipped(0));
        CHECKS.due("24: it was read", 1L, store::chunksRead);
        CHECKS.due("28: the row was not of its moment", 0, () -> store.groups(0));
    }

    private static void chunksReadOnce() {
        GranaryPartition store = rising(32);
        store.compare('<', 0, 16);
        store.compare('<', 0, 0);
        store.open(0, -1, 0, 1);
        store.open(1, -1, 0, 1);
        store.open(2, -1, 0, 1);
        store.read(2);
        CHECKS.due("24: each chunk once", 2L, store::chunksRead);
        CHECKS.due("25: none", 0, () -> store.skipped(0));
        CHECKS.due("25: the second chunk", 1, () -> store.skipped(1));
        CHECKS.due("25: both chunks", 2, () -> store.skipped(2));
        store.open(2, -1, 0, 1);
        store.open(1, -1, 0, 1);
        store.read(2);
        CHECKS.due("24: only what is not skipped", 3L, store::chunksRead);
    }

    private static void skippedChunks() {
        GranaryPartition store = rising(48);
        store.compare('=', 0, 20);
        store.open(1, -1, 0, 1);
        CHECKS.due("25: not yet", 0, () -> store.skipped(0));
        store.read(1);
        CHECKS.due("25: one", 1, () -> store.skipped(0));
        store.read(1);
        CHECKS.due("25: this one not", 1, () -> store.skipped(0));
        store.read(1);
        CHECKS.due("25: two", 2, () -> store.skipped(0));
        CHECKS.due("22: skipping is looking", true, () -> store.isDone(0));
        // What may be missing can be unknown, but that is not true.
        store.compare('m', 0, 0);
        store.join('a', 2, 2);
        store.clear(0, 0);
        store.open(1, -1, 0, 1);
        store.open(3, -1, 0, 1);
        store.read(3);
        CHECKS.due("25: unknown is not true", 2, () -> store.skipped(1));
        CHECKS.due("25: may be missing", 2, () -> store.skipped(2));
        // A chunk whose rows are all removed is read until it is mended.
        for (int row = 0; row < 16; row++) {
            store.remove(row);
        }
        store.open(0, -1, 0, 1);
        store.read(3);
        CHECKS.due("25: bounds stay", 0, () -> store.skipped(3));
        store.mend(0);
        store.open(0, -1, 0, 1);
        store.read(3);
        CHECKS.due("25: nothing can be", 1, () -> store.skipped(4));
    }

    private static void doneScans() {
        GranaryPartition store = rising(32);
        store.open(0, -1, 0, 1);
        CHECKS.due("22: open", false, () -> store.isDone(0));
        store.read(1);
        CHECKS.due("22: one chunk is left", false, () -> store.isDone(0));
        store.read(1);
        CHECKS.due("22: done", true, () -> store.isDone(0));
        CHECKS.element("22: below", () -> store.isDone(-1));
        CHECKS.element("22: above", () -> store.isDone(1));
    }

    private static void takeBackSpills() {
        GranaryPartition store = rising(32);
        store.open(0, 0, 0, 6);
        store.read(1);
        // Twelve groups, three of each part; the key 12 spills part 0, which is its own one.
        CHECKS.due("26: one part", 1, () -> store.spilled(0));
        CHECKS.due("27: the row 12", 1, () -> store.aside(0));
        CHECKS.due("21: 12 do not fit into 10", 1, () -> store.takeBack(0, 5));
        CHECKS.due("21: 8 do not fit into 6", 1, () -> store.takeBack(0, 3));
        CHECKS.due("21: 4 fit into 4", 0, () -> store.takeBack(0, 2));
        CHECKS.due("21: 4 do not fit into 2", 1, () -> store.takeBack(0, 1));
        CHECKS.due("26: all parts", 4, () -> store.spilled(0));
        CHECKS.due("27: what goes out is not set aside", 1, () -> store.aside(0));
        store.read(1);
        CHECKS.due("27: each row of the second chunk", 17, () -> store.aside(0));
        CHECKS.due("28: put together", 32, () -> store.groups(0));
        CHECKS.due("30: put together", 31, () -> store.total(0, 31, 2));
    }

    private static void takeBackAtOnce() {
        GranaryPartition store = rising(32);
        store.open(0, 0, 0, 6);
        store.read(1);
        CHECKS.due("21: three parts", 3, () -> store.takeBack(0, 1));
        GranaryPartition other = ofKeys(0, 1, 5, 9, 2);
        other.load(16, 0, 0, 1);
        other.open(1, 0, 0, 6);
        other.read(1);
        CHECKS.due("21: the part with the most groups", 1, () -> other.takeBack(0, 2));
        // The keys 0 and 2 are in the memory, and 1 is out with its part: one room of the four is taken by 0.
        CHECKS.due("21: two fit into two", 0, () -> other.takeBack(0, 1));
        other.read(1);
        CHECKS.due("27: rows of the key 0 had their group", 0, () -> other.aside(0));
    }

    private static void takeBackExceptions() {
        GranaryPartition store = rising(32);
        CHECKS.element("21: none", () -> store.takeBack(0, 1));
        store.open(0, 0, 0, 3);
        for (int grant : new int[] {0, 3, 4, -1, Integer.MIN_VALUE, Integer.MAX_VALUE}) {
            CHECKS.argument("21: grant", () -> store.takeBack(0, grant));
        }
        CHECKS.element("21: the scan comes first", () -> store.takeBack(1, 0));
        CHECKS.element("21: below", () -> store.takeBack(-1, 1));
        CHECKS.due("21: less", 0, () -> store.takeBack(0, 2));
        CHECKS.argument("21: not less any more", () -> store.takeBack(0, 2));
        CHECKS.due("21: the least", 0, () -> store.takeBack(0, 1));
        CHECKS.argument("21: no less", () -> store.takeBack(0, 1));
        CHECKS.argument("21: nothing", () -> store.takeBack(0, 0));
        store.read(2);
        CHECKS.element("21: not open any more", () -> store.takeBack(0, 1));
        CHECKS.element("21: not open any more", () -> store.takeBack(0, 9));
    }

    private static void spills(String what, GranaryPartition store, int grant, int key, int parts, int aside) {
        int scan = store.open(1, key, 0, grant);
        store.read(40);
        CHECKS.due("26: " + what, parts, () -> store.spilled(scan));
        CHECKS.due("27: " + what, aside, () -> store.aside(scan));
    }

    private static void spillsByMostGroups() {
        spills("one group each, the lowest one goes", ofKeys(1, 0, 2, 0, 1), 1, 0, 1, 1);
        spills("the part with the most goes", ofKeys(0, 1, 5, 9, 2, 0, 1, 5, 2), 2, 0, 1, 2);
        spills("its own part goes", ofKeys(1, 5, 9, 1, 5), 1, 0, 1, 3);
        spills("another one goes, and its own stays", ofKeys(1, 5, 2, 6, 2, 6), 1, 0, 1, 0);
        spills("twice as many as the grant", ofKeys(0, 1, 2, 3, 4, 5, 6, 7), 4, 0, 0, 0);
        spills("and no more", ofKeys(0, 1, 2, 3, 4, 5, 6, 7, 8), 4, 0, 1, 1);
        spills("each part goes", ofKeys(0, 4, 1, 8, 5, 2, 9, 6, 3, 10, 7, 11, 12, 13, 14, 15), 1, 0, 4, 8);
        spills("a spilled part needs no room", ofKeys(0, 4, 8, 1, 5, 12, 16, 1, 5), 1, 0, 1, 3);
    }

    private static void partsOfNegativeKeys() {
        // Modulo 4 from 0 on, -1 and -5 are in the part 3.
        spills("negative keys", ofKeys(-1, -5, 0, -9, 3, 0, -4), 1, 0, 1, 2);
        spills("negative multiples of 4", ofKeys(-4, -8, 1, 0, 4), 1, 0, 1, 2);
    }

    private static void partOfMissingKey() {
        spills("missing is in the part 0", ofKeys(null, 4, 1, null, 8, 1), 1, 0, 1, 2);
        spills("missing is one group", ofKeys(null, null, 1, null), 1, 0, 0, 0);
    }

    private static void noKeyIsOnePart() {
        spills("without a key", ofKeys(0, 1, 2, 3, 4, 5), 1, -1, 0, 0);
    }

    private static void groupsThatAreThere() {
        spills("groups that are there", ofKeys(0, 1, 0, 1, 1, 0), 1, 0, 0, 0);
        GranaryPartition store = ofKeys(0, 1, 2, 3, 4, 5);
        store.compare('<', 0, 2);
        int scan = store.open(2, 0, 0, 1);
        store.read(1);
        CHECKS.due("26: only rows that are chosen need groups", 0, () -> store.spilled(scan));
    }

    private static void askingExceptions() {
        GranaryPartition store = rising(16);
        store.open(0, 0, 0, 1);
        for (int scan : new int[] {-1, 1, Integer.MIN_VALUE, Integer.MAX_VALUE}) {
            CHECKS.element("22: no such scan", () -> store.isDone(scan));
            CHECKS.element("25: no such scan", () -> store.skipped(scan));
            CHECKS.element("26: no such scan", () -> store.spilled(scan));
            CHECKS.element("27: no such scan", () -> store.aside(scan));
        }
        CHECKS.due("25: while open", 0, () -> store.skipped(0));
        CHECKS.due("26: while open", 0, () -> store.spilled(0));
        CHECKS.due("27: while open", 0, () -> store.aside(0));
    }
}
