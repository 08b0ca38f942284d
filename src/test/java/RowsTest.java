/** Promises 1 to 7: rows and writes. */
public final class RowsTest {
    private static final Checks CHECKS = new Checks();

    public static void main(String[] args) {
        newObject();
        loadedValues();
        loadRanges();
        loadLimit();
        setValues();
        setExceptions();
        clearValues();
        removedRows();
        valueAtExceptions();
        momentCountsWrites();
        CHECKS.end("RowsTest");
    }

    static GranaryPartition loaded(int many, int first, int step, int turn) {
        GranaryPartition store = new GranaryPartition();
        store.load(many, first, step, turn);
        return store;
    }

    private static void rowIs(GranaryPartition store, int row, int... values) {
        for (int column = 0; column < values.length; column++) {
            int asked = column;
            CHECKS.due("row " + row + " column " + column, values[column], () -> store.valueAt(row, asked));
        }
    }

    private static void newObject() {
        GranaryPartition store = new GranaryPartition();
        CHECKS.due("1: no chunks", 0, store::chunks);
        CHECKS.due("1: no writes", 0, store::moment);
        CHECKS.due("1: position", 0, store::position);
        CHECKS.due("1: nothing read", 0L, store::chunksRead);
        CHECKS.index("1: no row", () -> store.valueAt(0, 0));
        CHECKS.element("1: no filter", () -> store.sum(0, 0));
        CHECKS.element("1: no scan", () -> store.isDone(0));
        CHECKS.due("1: sound", true, store::isSound);
        GranaryPartition other = loaded(3, 0, 1, 9);
        other.compare('=', 0, 0);
        other.open(0, -1, 0, 1);
        CHECKS.due("1: of its own", 0, store::chunks);
        CHECKS.element("1: filters of its own", () -> store.sum(0, 0));
        CHECKS.element("1: scans of its own", () -> store.isDone(0));
        CHECKS.due("1: the first load is the first", 1, () -> store.load(1, 0, 0, 1));
    }

    private static void loadedValues() {
        GranaryPartition store = new GranaryPartition();
        CHECKS.due("2: rows", 5, () -> store.load(5, 7, 3, 10));
        rowIs(store, 0, 7, 12, 0, 1);
        rowIs(store, 1, 0, 0, 0, 0);
        rowIs(store, 2, 3, 9, 0, 0);
        rowIs(store, 3, 6, 36, 0, 0);
        rowIs(store, 4, 9, 7, 1, 0);
        CHECKS.due("2: behind those that are there", 7, () -> store.load(2, -5, 0, 7));
        rowIs(store, 5, 2, 4, 0, 2);
        rowIs(store, 6, 2, 4, 0, 2);
        CHECKS.due("2: a step downwards", 10, () -> store.load(3, 1, -2, 5));
        rowIs(store, 7, 1, 1, 0, 1);
        rowIs(store, 8, 4, 16, 0, 1);
        rowIs(store, 9, 2, 4, 0, 2);
        CHECKS.due("2: far below 0", 50, () -> store.load(40, -999, -99, 999));
        rowIs(store, 49, 135, 135 * 135 % 37, 9, 0);
        CHECKS.due("2: far above", 51, () -> store.load(1, 998, 99, 999));
        rowIs(store, 50, 998, 1, 0, 2);
        CHECKS.due("2: turn 1", 52, () -> store.load(1, 999, 99, 1));
        rowIs(store, 51, 0, 0, 0, 0);
    }

    private static void loadRanges() {
        int[][] wrong = {{0, 0, 0, 1}, {41, 0, 0, 1}, {-1, 0, 0, 1}, {1, -1000, 0, 1}, {1, 1000, 0, 1},
            {1, 0, -100, 1}, {1, 0, 100, 1}, {1, 0, 0, 0}, {1, 0, 0, 1000}, {1, 0, 0, -1},
            {Integer.MAX_VALUE, 0, 0, 1}, {1, 0, Integer.MIN_VALUE, 1}, {1, 0, 0, Integer.MIN_VALUE}};
        GranaryPartition store = new GranaryPartition();
        for (int[] a : wrong) {
            CHECKS.argument("2: out of range", () -> store.load(a[0], a[1], a[2], a[3]));
        }
        CHECKS.due("2: nothing changed", 0, store::moment);
        int[][] right = {{1, -999, -99, 1}, {40, 999, 99, 999}};
        int rows = 0;
        for (int[] a : right) {
            rows += a[0];
            CHECKS.due("2: in range", rows, () -> store.load(a[0], a[1], a[2], a[3]));
        }
    }

    private static void loadLimit() {
        GranaryPartition store = loaded(40, 0, 1, 9);
        store.load(40, 0, 1, 9);
        store.load(40, 0, 1, 9);
        store.load(30, 0, 1, 9);
        CHECKS.state("2: 161 rows", () -> store.load(11, 0, 1, 9));
        CHECKS.due("2: 160 rows", 160, () -> store.load(10, 0, 1, 9));
        CHECKS.state("2: one more", () -> store.load(1, 0, 1, 9));
        CHECKS.argument("2: the argument comes first", () -> store.load(1, 0, 1, 0));
        CHECKS.due("2: ten chunks", 10, store::chunks);
        store.remove(3);
        CHECKS.state("2: a removed row is still there", () -> store.load(1, 0, 1, 9));
    }

    private static void setValues() {
        GranaryPartition store = loaded(20, 0, 1, 20);
        CHECKS.due("3: was not missing", false, () -> store.set(19, 3, -999));
        CHECKS.due("3: is set", -999, () -> store.valueAt(19, 3));
        store.clear(19, 3);
        CHECKS.due("3: was missing", true, () -> store.set(19, 3, 999));
        CHECKS.due("3: is set again", 999, () -> store.valueAt(19, 3));
        CHECKS.due("3: the same value is a set too", false, () -> store.set(19, 3, 999));
        CHECKS.due("3: others stay", 18, () -> store.valueAt(18, 0));
    }

    private static void setExceptions() {
        GranaryPartition store = loaded(3, 0, 1, 20);
        store.remove(2);
        CHECKS.index("3: row below", () -> store.set(-1, 0, 0));
        CHECKS.index("3: row above", () -> store.set(3, 0, 0));
        CHECKS.index("3: column below", () -> store.set(0, -1, 0));
        CHECKS.index("3: column above", () -> store.set(0, 4, 0));
        CHECKS.index("3: index ahead of value", () -> store.set(3, 0, 1000));
        CHECKS.index("3: column ahead of the removed row", () -> store.set(2, 4, 0));
        CHECKS.argument("3: value above", () -> store.set(0, 0, 1000));
        CHECKS.argument("3: value below", () -> store.set(0, 0, -1000));
        CHECKS.argument("3: value ahead of the removed row", () -> store.set(2, 0, 1000));
        CHECKS.state("3: removed", () -> store.set(2, 0, 0));
        CHECKS.index("3: far away", () -> store.set(Integer.MAX_VALUE, Integer.MIN_VALUE, 0));
        CHECKS.due("3: no write", 2, store::moment);
    }

    private static void clearValues() {
        GranaryPartition store = loaded(3, 0, 1, 20);
        CHECKS.due("4: was not missing", false, () -> store.clear(1, 2));
        CHECKS.element("4: is missing", () -> store.valueAt(1, 2));
        CHECKS.due("4: was missing", true, () -> store.clear(1, 2));
        CHECKS.due("4: both are writes", 3, store::moment);
        CHECKS.due("4: others stay", 1, () -> store.valueAt(1, 1));
        store.remove(0);
        CHECKS.index("4: row below", () -> store.clear(-1, 0));
        CHECKS.index("4: row above", () -> store.clear(3, 0));
        CHECKS.index("4: column below", () -> store.clear(0, -1));
        CHECKS.index("4: column above, row removed", () -> store.clear(0, 4));
        CHECKS.state("4: removed", () -> store.clear(0, 0));
        CHECKS.due("4: no more writes", 4, store::moment);
    }

    private static void removedRows() {
        GranaryPartition store = loaded(18, 0, 1, 20);
        CHECKS.due("5: alive", 17, () -> store.remove(17));
        CHECKS.due("5: alive", 16, () -> store.remove(0));
        CHECKS.state("5: is removed", () -> store.remove(0));
        CHECKS.index("5: below", () -> store.remove(-1));
        CHECKS.index("5: above", () -> store.remove(18));
        CHECKS.element("5: has no values", () -> store.valueAt(17, 0));
        CHECKS.due("5: the numbers stay", 20, () -> store.load(2, 5, 0, 6));
        CHECKS.due("5: the numbers stay", 5, () -> store.valueAt(18, 0));
        CHECKS.due("5: alive with the new ones", 17, () -> store.remove(18));
        CHECKS.due("5: chunks stay", 2, store::chunks);
    }

    private static void valueAtExceptions() {
        GranaryPartition store = loaded(2, 3, 4, 20);
        store.clear(0, 1);
        store.remove(1);
        CHECKS.due("6: a value", 3, () -> store.valueAt(0, 0));
        CHECKS.element("6: missing", () -> store.valueAt(0, 1));
        CHECKS.element("6: removed", () -> store.valueAt(1, 0));
        CHECKS.index("6: row below", () -> store.valueAt(-1, 0));
        CHECKS.index("6: row above", () -> store.valueAt(2, 0));
        CHECKS.index("6: column below", () -> store.valueAt(0, -1));
        CHECKS.index("6: column above, row removed", () -> store.valueAt(1, 4));
        store.set(0, 1, -7);
        CHECKS.due("6: as it is now", -7, () -> store.valueAt(0, 1));
    }

    private static void momentCountsWrites() {
        GranaryPartition store = new GranaryPartition();
        store.load(40, 0, 1, 9);
        CHECKS.due("7: a load is one", 1, store::moment);
        store.set(0, 0, 0);
        store.clear(0, 0);
        store.remove(1);
        CHECKS.due("7: each write", 4, store::moment);
        store.mend(0);
        store.compare('=', 0, 0);
        store.open(0, -1, 0, 1);
        store.read(3);
        CHECKS.due("7: what writes nothing", 4, store::moment);
    }
}
