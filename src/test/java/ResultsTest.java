/** Promises 28 to 33: results and how long they are kept. */
public final class ResultsTest {
    private static final Checks CHECKS = new Checks();

    public static void main(String[] args) {
        groupsOfKeys();
        groupsOfMissing();
        withoutKey();
        resultOfTheMoment();
        orderOfExceptions();
        edgesOfGroups();
        notDoneIsNotKept();
        writesEndKeeping();
        writesBeforeDoneEndKeeping();
        columnsOfFilters();
        otherCallsKeep();
        threeBehind();
        doneInOneStep();
        keptForSame();
        keptForExceptions();
        CHECKS.end("ResultsTest");
    }

    private static GranaryPartition loaded(int many, int first, int step, int turn) {
        return RowsTest.loaded(many, first, step, turn);
    }

    /** The filter 0 compares the column 0, and is true for all rows that have it. */
    private static GranaryPartition filtered(int many) {
        GranaryPartition store = loaded(many, 0, 1, 20);
        store.compare('>', 0, -999);
        return store;
    }

    private static int scanned(GranaryPartition store, int filter, int key, int measure) {
        int scan = store.open(filter, key, measure, 6);
        store.read(40);
        return scan;
    }

    private static void group(GranaryPartition store, int scan, int index, int key, int count, int measured, int sum) {
        CHECKS.due("29: key", key, () -> store.keyAt(scan, index));
        CHECKS.due("30: count of " + key, count, () -> store.total(scan, index, 0));
        CHECKS.due("30: measured of " + key, measured, () -> store.total(scan, index, 1));
        CHECKS.due("30: sum of " + key, sum, () -> store.total(scan, index, 2));
    }

    private static void groupsOfKeys() {
        GranaryPartition store = filtered(20);
        int scan = scanned(store, 0, 3, 0);
        CHECKS.due("28: three", 3, () -> store.groups(scan));
        group(store, scan, 0, 0, 7, 7, 63);
        group(store, scan, 1, 1, 7, 7, 70);
        group(store, scan, 2, 2, 6, 6, 57);
        CHECKS.due("31: least", 2, () -> store.edge(scan, 2, false));
        CHECKS.due("31: greatest", 17, () -> store.edge(scan, 2, true));
        int none = scanned(store, store.compare('>', 0, 19), 3, 0);
        CHECKS.due("28: none", 0, () -> store.groups(none));
    }

    private static void groupsOfMissing() {
        GranaryPartition store = filtered(6);
        store.clear(1, 1);
        store.set(2, 1, -7);
        store.set(3, 1, -999);
        store.set(4, 1, 999);
        store.clear(5, 1);
        store.clear(5, 2);
        int scan = scanned(store, 0, 1, 2);
        CHECKS.due("28: five", 5, () -> store.groups(scan));
        group(store, scan, 0, 1000, 2, 1, 0);
        group(store, scan, 1, -999, 1, 1, 0);
        group(store, scan, 2, -7, 1, 1, 0);
        group(store, scan, 3, 0, 1, 1, 0);
        group(store, scan, 4, 999, 1, 1, 1);
        int byItself = scanned(store, 0, 1, 1);
        group(store, byItself, 0, 1000, 2, 0, 0);
        group(store, byItself, 1, -999, 1, 1, -999);
        CHECKS.unsupported("31: all are missing", () -> store.edge(byItself, 0, true));
        CHECKS.unsupported("31: all are missing", () -> store.edge(byItself, 0, false));
        CHECKS.due("31: one is there", 0, () -> store.edge(scan, 0, true));
    }

    private static void withoutKey() {
        GranaryPartition store = filtered(20);
        store.clear(0, 0);
        int scan = scanned(store, 0, -1, 0);
        CHECKS.due("28: one", 1, () -> store.groups(scan));
        group(store, scan, 0, 0, 19, 19, 190);
        CHECKS.due("31: least", 1, () -> store.edge(scan, 0, false));
        CHECKS.due("31: greatest", 19, () -> store.edge(scan, 0, true));
        int none = scanned(store, store.compare('>', 0, 19), -1, 0);
        CHECKS.due("28: no row, no group", 0, () -> store.groups(none));
        CHECKS.index("29: no group", () -> store.keyAt(none, 0));
    }

    private static void resultOfTheMoment() {
        GranaryPartition store = filtered(20);
        store.open(0, 3, 0, 1);
        store.read(1);
        store.set(19, 0, 500);
        store.set(19, 3, 7);
        store.remove(18);
        store.read(1);
        CHECKS.due("28: as it was", 3, () -> store.groups(0));
        group(store, 0, 0, 0, 7, 7, 63);
        group(store, 0, 1, 1, 7, 7, 70);
        store.set(0, 3, 2);
        group(store, 0, 0, 0, 7, 7, 63);
    }

    private static void orderOfExceptions() {
        GranaryPartition store = filtered(20);
        store.open(0, 3, 0, 1);
        for (int scan : new int[] {-1, 1, Integer.MIN_VALUE, Integer.MAX_VALUE}) {
            CHECKS.element("28: no such scan", () -> store.groups(scan));
            CHECKS.element("29: no such scan", () -> store.keyAt(scan, -1));
            CHECKS.element("30: no such scan", () -> store.total(scan, -1, 3));
            CHECKS.element("31: no such scan", () -> store.edge(scan, -1, true));
            CHECKS.element("32: no such scan", () -> store.isKept(scan));
        }
        CHECKS.state("28: not done", () -> store.groups(0));
        CHECKS.state("29: not done", () -> store.keyAt(0, -1));
        CHECKS.state("30: not done", () -> store.total(0, -1, 3));
        CHECKS.state("31: not done", () -> store.edge(0, -1, true));
        CHECKS.due("32: not done", false, () -> store.isKept(0));
        store.read(2);
        for (int index : new int[] {-1, 3, Integer.MIN_VALUE, Integer.MAX_VALUE}) {
            CHECKS.index("29: no such group", () -> store.keyAt(0, index));
            CHECKS.index("30: no such group", () -> store.total(0, index, 3));
            CHECKS.index("31: no such group", () -> store.edge(0, index, true));
        }
        for (int what : new int[] {-1, 3, 4, Integer.MIN_VALUE, Integer.MAX_VALUE}) {
            CHECKS.argument("30: none of these", () -> store.total(0, 0, what));
        }
    }

    private static void edgesOfGroups() {
        GranaryPartition store = loaded(3, 0, 0, 1);
        store.compare('>', 1, -999);
        store.set(0, 0, -999);
        store.set(1, 0, -999);
        store.clear(2, 0);
        scanned(store, 0, -1, 0);
        CHECKS.due("31: least of all", -999, () -> store.edge(0, 0, false));
        CHECKS.due("31: least of all is the greatest", -999, () -> store.edge(0, 0, true));
        store.set(1, 0, 999);
        store.set(0, 0, 999);
        scanned(store, 0, -1, 0);
        CHECKS.due("31: greatest of all is the least", 999, () -> store.edge(1, 0, false));
        CHECKS.due("31: greatest of all", 999, () -> store.edge(1, 0, true));
    }

    private static void notDoneIsNotKept() {
        GranaryPartition store = filtered(20);
        store.open(0, 3, 0, 1);
        CHECKS.due("32: open", false, () -> store.isKept(0));
        CHECKS.element("33: open", () -> store.keptFor(0, 3, 0));
        store.read(2);
        CHECKS.due("32: done", true, () -> store.isKept(0));
        CHECKS.due("33: done", 0, () -> store.keptFor(0, 3, 0));
    }

    private static GranaryPartition kept() {
        GranaryPartition store = filtered(20);
        scanned(store, 0, 3, 2);
        return store;
    }

    private static void writesEndKeeping() {
        GranaryPartition loadedMore = kept();
        loadedMore.load(1, 0, 0, 1);
        CHECKS.due("32: a load", false, () -> loadedMore.isKept(0));
        GranaryPartition removed = kept();
        removed.remove(0);
        CHECKS.due("32: a removal", false, () -> removed.isKept(0));
        for (int column = 0; column < 4; column++) {
            GranaryPartition set = kept();
            set.set(0, column, set.valueAt(0, column));
            CHECKS.due("32: a set of column " + column, column == 1, () -> set.isKept(0));
            GranaryPartition cleared = kept();
            cleared.clear(0, column);
            CHECKS.due("32: a clear of column " + column, column == 1, () -> cleared.isKept(0));
        }
        GranaryPartition again = kept();
        again.set(0, 0, 5);
        scanned(again, 0, 3, 2);
        CHECKS.due("32: scanned again", true, () -> again.isKept(1));
        CHECKS.due("32: the old one", false, () -> again.isKept(0));
        CHECKS.due("28: its result is still there", 3, () -> again.groups(0));
    }

    private static void writesBeforeDoneEndKeeping() {
        GranaryPartition store = filtered(20);
        store.set(0, 0, 1);
        store.open(0, 3, 2, 1);
        store.open(0, 1, 1, 1);
        store.set(0, 1, 1);
        store.read(2);
        CHECKS.due("32: not its column", true, () -> store.isKept(0));
        CHECKS.due("32: its column, since it was opened", false, () -> store.isKept(1));
        store.open(0, 3, 2, 1);
        store.load(1, 0, 0, 1);
        store.read(3);
        CHECKS.due("32: a load since it was opened", false, () -> store.isKept(2));
    }

    private static void columnsOfFilters() {
        GranaryPartition store = filtered(4);
        int missing = store.compare('m', 1, 0);
        int joined = store.join('n', store.join('o', 0, missing), 0);
        scanned(store, joined, -1, 2);
        CHECKS.due("32: kept", true, () -> store.isKept(0));
        store.set(0, 3, 1);
        CHECKS.due("32: a column that it does not have", true, () -> store.isKept(0));
        store.set(0, 1, 1);
        CHECKS.due("32: a column deep in its filter", false, () -> store.isKept(0));
        scanned(store, joined, -1, 2);
        store.clear(0, 0);
        CHECKS.due("32: another one in its filter", false, () -> store.isKept(1));
        scanned(store, missing, -1, 2);
        store.set(0, 0, 3);
        store.set(0, 3, 1);
        CHECKS.due("32: without a key no column is its key", true, () -> store.isKept(2));
    }

    private static void otherCallsKeep() {
        GranaryPartition store = kept();
        store.set(0, 1, 5);
        store.mend(0);
        store.compare('=', 0, 0);
        CHECKS.argument("32: a refused write", () -> store.set(0, 0, 1000));
        CHECKS.due("32: is still kept", true, () -> store.isKept(0));
        CHECKS.due("38: and sound", true, store::isSound);
    }

    private static void threeBehind() {
        GranaryPartition store = kept();
        scanned(store, 0, 0, 0);
        scanned(store, 0, 0, 0);
        CHECKS.due("32: two were done behind it", true, () -> store.isKept(0));
        store.open(0, 0, 0, 1);
        store.read(1);
        CHECKS.due("32: the third one is open", true, () -> store.isKept(0));
        store.read(1);
        CHECKS.due("32: the third one is done", false, () -> store.isKept(0));
        CHECKS.due("32: the next one stays", true, () -> store.isKept(1));
        store.set(0, 0, 0);
        CHECKS.due("32: all are touched", false, () -> store.isKept(3));
        scanned(store, 0, 3, 2);
        CHECKS.due("32: a new one", true, () -> store.isKept(4));
        // Scans count by the order in which they are done, kept or not.
        for (int i = 0; i < 3; i++) {
            CHECKS.due("32: until three more are done", true, () -> store.isKept(4));
            store.open(0, 0, 1, 1);
            store.set(0, 1, 0);
            store.read(2);
        }
        CHECKS.due("32: touched ones count too", false, () -> store.isKept(4));
    }

    private static void doneInOneStep() {
        GranaryPartition store = filtered(20);
        for (int i = 0; i < 4; i++) {
            store.open(0, 3, i, 1);
        }
        store.read(2);
        CHECKS.due("32: the lowest number was done first", false, () -> store.isKept(0));
        CHECKS.due("32: two behind it", true, () -> store.isKept(1));
        CHECKS.due("32: none behind it", true, () -> store.isKept(3));
        // The first one is done in an earlier step than the others, which are done in one.
        GranaryPartition other = filtered(40);
        other.open(0, 3, 0, 1);
        other.read(1);
        other.open(0, 3, 1, 1);
        other.open(0, 3, 2, 1);
        other.open(0, 3, 3, 1);
        other.read(2);
        CHECKS.due("32: the first one is done", true, () -> other.isKept(0));
        other.read(1);
        CHECKS.due("32: three in one step", false, () -> other.isKept(0));
        CHECKS.due("32: the next one", true, () -> other.isKept(1));
    }

    private static void keptForSame() {
        GranaryPartition store = filtered(20);
        store.compare('>', 0, -999);
        scanned(store, 0, 3, 2);
        scanned(store, 0, 3, 2);
        CHECKS.due("33: the greatest number", 1, () -> store.keptFor(0, 3, 2));
        CHECKS.element("33: a like filter is another one", () -> store.keptFor(1, 3, 2));
        CHECKS.element("33: another key", () -> store.keptFor(0, 2, 2));
        CHECKS.element("33: no key", () -> store.keptFor(0, -1, 2));
        CHECKS.element("33: another measure", () -> store.keptFor(0, 3, 3));
        scanned(store, 1, -1, 0);
        CHECKS.due("33: without a key", 2, () -> store.keptFor(1, -1, 0));
        CHECKS.due("33: the first ones stay", 1, () -> store.keptFor(0, 3, 2));
        store.set(0, 3, 0);
        CHECKS.element("33: touched", () -> store.keptFor(0, 3, 2));
        CHECKS.due("33: not touched", 2, () -> store.keptFor(1, -1, 0));
        store.open(1, -1, 0, 1);
        CHECKS.due("33: the open one does not count", 2, () -> store.keptFor(1, -1, 0));
        store.read(2);
        CHECKS.due("33: now it does", 3, () -> store.keptFor(1, -1, 0));
    }

    private static void keptForExceptions() {
        GranaryPartition store = kept();
        int[][] none = {{1, 3, 2}, {-1, 3, 2}, {0, 4, 2}, {0, -2, 2}, {0, 3, 4}, {0, 3, -1},
            {Integer.MAX_VALUE, Integer.MIN_VALUE, Integer.MAX_VALUE}};
        for (int[] a : none) {
            CHECKS.element("33: none", () -> store.keptFor(a[0], a[1], a[2]));
        }
        CHECKS.element("33: no scans", () -> new GranaryPartition().keptFor(0, -1, 0));
    }
}
