/** Promises 34 to 38: sums, their bounds, and figures. */
public final class FiguresTest {
    private static final Checks CHECKS = new Checks();

    public static void main(String[] args) {
        sums();
        sumExceptions();
        sureBounds();
        unsureBounds();
        boundsByChunks();
        boundsWithoutNumbers();
        boundsHoldTheSum();
        boundExceptions();
        meanOfBits();
        shareOfSkips();
        soundness();
        CHECKS.end("FiguresTest");
    }

    private static GranaryPartition loaded(int many, int first, int step, int turn) {
        return RowsTest.loaded(many, first, step, turn);
    }

    private static void sums() {
        GranaryPartition store = loaded(20, 0, 1, 20);
        store.compare('<', 0, 5);
        CHECKS.due("34: 0 to 4", 10, () -> store.sum(0, 0));
        CHECKS.due("34: another measure", 1, () -> store.sum(0, 2));
        store.set(4, 0, -999);
        CHECKS.due("34: as it is now", 6 - 999, () -> store.sum(0, 0));
        store.clear(3, 2);
        store.clear(4, 2);
        CHECKS.due("34: missing counts nothing", 0, () -> store.sum(0, 2));
        store.clear(0, 0);
        store.remove(4);
        CHECKS.due("34: unknown and removed", 6, () -> store.sum(0, 0));
        store.mend(0);
        CHECKS.due("34: mended", 6, () -> store.sum(0, 0));
        store.compare('m', 0, 0);
        CHECKS.due("34: missing ones are chosen", 0, () -> store.sum(1, 1));
        store.set(0, 1, 36);
        CHECKS.due("34: missing ones are chosen", 36, () -> store.sum(1, 1));
        store.load(3, 0, 1, 5);
        CHECKS.due("34: loaded ones", 9, () -> store.sum(0, 0));
        GranaryPartition full = new GranaryPartition();
        for (int i = 0; i < 4; i++) {
            full.load(40, 998, 0, 999);
        }
        full.compare('>', 0, 0);
        CHECKS.due("34: all rows", 160 * 998, () -> full.sum(0, 0));
        CHECKS.due("34: no rows", 0, () -> empty().sum(0, 0));
    }

    private static GranaryPartition empty() {
        GranaryPartition store = new GranaryPartition();
        store.compare('>', 0, 0);
        return store;
    }

    private static void sumExceptions() {
        GranaryPartition store = empty();
        CHECKS.element("34: filter below", () -> store.sum(-1, 0));
        CHECKS.element("34: filter above", () -> store.sum(1, 0));
        CHECKS.element("34: the filter comes first", () -> store.sum(1, 4));
        CHECKS.argument("34: column below", () -> store.sum(0, -1));
        CHECKS.argument("34: column above", () -> store.sum(0, 4));
    }

    private static void bounded(String what, GranaryPartition store, int filter, int measure, int below, int above) {
        CHECKS.due("35: from below, " + what, below, () -> store.bound(filter, measure, false));
        CHECKS.due("35: from above, " + what, above, () -> store.bound(filter, measure, true));
    }

    private static void sureBounds() {
        GranaryPartition store = loaded(10, 5, 1, 99);
        store.compare('>', 0, 4);
        store.compare('<', 0, 5);
        bounded("only true", store, 0, 0, 50, 140);
        bounded("only false", store, 1, 0, 0, 0);
        store.set(0, 0, 20);
        bounded("a set widens", store, 0, 0, 50, 200);
        store.remove(0);
        bounded("rows that are alive", store, 0, 0, 45, 180);
        store.mend(0);
        bounded("mended", store, 0, 0, 54, 126);
        GranaryPartition negative = loaded(2, 0, 0, 1);
        negative.set(0, 0, -5);
        negative.set(1, 0, -3);
        negative.mend(0);
        negative.compare('<', 0, 0);
        bounded("below 0", negative, 0, 0, -10, -6);
    }

    private static void unsureBounds() {
        GranaryPartition store = loaded(10, 5, 1, 99);
        store.compare('>', 0, 5);
        bounded("true or false", store, 0, 0, 0, 140);
        store.set(0, 1, -4);
        bounded("a negative one", store, 0, 1, -40, 360);
        GranaryPartition negative = loaded(2, 0, 0, 1);
        negative.set(0, 0, -5);
        negative.set(1, 0, -3);
        negative.mend(0);
        negative.compare('<', 0, -3);
        bounded("not above 0", negative, 0, 0, -10, 0);
        GranaryPartition missing = loaded(10, 5, 1, 99);
        missing.compare('>', 0, 4);
        missing.clear(0, 2);
        bounded("the measure may be missing", missing, 0, 2, 0, 20);
        bounded("another one may not", missing, 0, 3, 0, 20);
        bounded("the filter is sure", missing, 0, 0, 50, 140);
        missing.clear(0, 0);
        bounded("true or unknown", missing, 0, 0, 0, 140);
        bounded("true or unknown", missing, 0, 1, 0, 360);
    }

    private static void boundsByChunks() {
        GranaryPartition store = loaded(40, 0, 1, 20);
        store.compare('<', 0, 5);
        store.set(39, 0, 3);
        bounded("three chunks", store, 0, 0, 0, 696);
        store.compare('<', 0, 16);
        // The first chunk is sure, the two others are not.
        bounded("one is sure", store, 1, 0, 0, 696);
        store.set(0, 1, -2);
        bounded("one is sure", store, 1, 1, -32, 16 * 36 + 16 * 36 + 8 * 34);
        GranaryPartition sure = loaded(20, 7, 0, 9);
        sure.compare('=', 0, 7);
        sure.set(19, 0, 8);
        bounded("one is sure", sure, 0, 0, 16 * 7, 16 * 7 + 4 * 8);
    }

    private static void boundsWithoutNumbers() {
        GranaryPartition store = loaded(2, 5, 0, 99);
        store.compare('=', 0, 5);
        store.clear(0, 1);
        store.clear(1, 1);
        store.mend(0);
        bounded("no bounds of the measure", store, 0, 1, 0, 0);
        bounded("of another one", store, 0, 0, 10, 10);
        store.remove(0);
        store.remove(1);
        bounded("no rows", store, 0, 0, 0, 0);
        bounded("no chunks", empty(), 0, 0, 0, 0);
    }

    private static void boundsHoldTheSum() {
        GranaryPartition store = loaded(40, 3, 7, 50);
        store.compare('>', 0, 20);
        store.compare('m', 1, 0);
        store.join('o', 0, 1);
        for (int row = 0; row < 40; row += 3) {
            store.set(row, 2, -row);
            store.clear(row, 1);
        }
        for (int filter = 0; filter < 3; filter++) {
            for (int measure = 0; measure < 4; measure++) {
                int f = filter;
                int m = measure;
                CHECKS.due("35: below", true, () -> store.bound(f, m, false) <= store.sum(f, m));
                CHECKS.due("35: above", true, () -> store.bound(f, m, true) >= store.sum(f, m));
            }
        }
    }

    private static void boundExceptions() {
        GranaryPartition store = empty();
        for (boolean isAbove : new boolean[] {false, true}) {
            CHECKS.element("35: filter below", () -> store.bound(-1, 0, isAbove));
            CHECKS.element("35: filter above", () -> store.bound(1, 0, isAbove));
            CHECKS.element("35: the filter comes first", () -> store.bound(1, 4, isAbove));
            CHECKS.argument("35: column below", () -> store.bound(0, -1, isAbove));
            CHECKS.argument("35: column above", () -> store.bound(0, 4, isAbove));
        }
    }

    private static void meanOfBits() {
        GranaryPartition store = new GranaryPartition();
        CHECKS.arithmetic("36: no rows", store::meanBits);
        store.load(1, 5, 0, 9);
        CHECKS.due("36: one row", 44.0 / 4.0, store::meanBits);
        store.load(2, 5, 0, 9);
        CHECKS.due("36: three rows", 44.0 / 12.0, store::meanBits);
        store.remove(0);
        CHECKS.due("36: a removed one counts", 44.0 / 12.0, store::meanBits);
        store.mend(0);
        // Missing and another one: a dictionary of two with one bit for each row.
        CHECKS.due("36: mended", 25.0 * 4.0 / 12.0, store::meanBits);
        GranaryPartition other = loaded(40, 0, 1, 20);
        CHECKS.due("36: many", 4.575, other::meanBits);
    }

    private static void shareOfSkips() {
        GranaryPartition store = loaded(40, 0, 1, 40);
        store.compare('<', 0, 16);
        CHECKS.arithmetic("37: no looks", store::skippedShare);
        store.open(0, -1, 0, 1);
        CHECKS.arithmetic("37: not yet", store::skippedShare);
        store.read(1);
        CHECKS.due("37: none skipped", 0.0f, store::skippedShare);
        store.read(1);
        CHECKS.due("37: one of two", 0.5f, store::skippedShare);
        store.read(1);
        CHECKS.due("37: two of three", 2.0f / 3.0f, store::skippedShare);
        store.compare('<', 0, 0);
        store.open(1, -1, 0, 1);
        store.open(0, -1, 0, 1);
        store.read(1);
        CHECKS.due("37: looks of both", 3.0f / 5.0f, store::skippedShare);
    }

    private static void soundness() {
        GranaryPartition store = loaded(40, 0, 1, 20);
        CHECKS.due("38: rows alone", true, store::isSound);
        store.compare('<', 0, 9);
        store.compare('m', 1, 0);
        store.join('o', 0, 1);
        store.clear(5, 1);
        store.set(6, 0, -999);
        store.remove(7);
        store.open(2, 3, 2, 1);
        CHECKS.due("38: open", true, store::isSound);
        store.read(3);
        CHECKS.due("38: kept", true, store::isSound);
        store.set(6, 0, 999);
        store.mend(0);
        CHECKS.due("38: touched and mended", true, store::isSound);
        store.open(2, 0, 1, 2);
        store.read(1);
        store.remove(39);
        store.read(3);
        CHECKS.due("38: removed meanwhile", true, store::isSound);
        GranaryPartition empty = empty();
        empty.open(0, -1, 0, 1);
        CHECKS.due("38: nothing", true, empty::isSound);
        empty.load(1, 5, 0, 9);
        CHECKS.due("38: no longer kept", true, empty::isSound);
    }
}
