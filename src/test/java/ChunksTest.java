/** Promises 8 to 15: chunks, their encodings, what is kept of them, and mending. */
public final class ChunksTest {
    private static final Checks CHECKS = new Checks();

    public static void main(String[] args) {
        chunkCount();
        plainEncoding();
        runEncoding();
        dictionaryEncoding();
        offsetEncoding();
        equalCosts();
        missingInEncodings();
        baseOfGrowingChunk();
        encodingExceptions();
        changesAreCounted();
        boundsWiden();
        boundsOfNothing();
        boundsExceptions();
        mayMissIsKept();
        mendRenews();
        mendPassesOverRemovedRows();
        mendExceptions();
        CHECKS.end("ChunksTest");
    }

    private static GranaryPartition loaded(int many, int first, int step, int turn) {
        return RowsTest.loaded(many, first, step, turn);
    }

    private static GranaryPartition ofValues(Integer... values) {
        GranaryPartition store = loaded(values.length, 0, 0, 1);
        for (int row = 0; row < values.length; row++) {
            if (values[row] == null) {
                store.clear(row, 0);
            } else {
                store.set(row, 0, values[row]);
            }
        }
        store.mend(0);
        return store;
    }

    private static void encoded(String what, GranaryPartition store, int chunk, int column, char kind, int bits) {
        CHECKS.due(what + ", encoding", kind, () -> store.encoding(chunk, column));
        CHECKS.due(what + ", bits", bits, () -> store.bits(chunk, column));
    }

    private static void chunkCount() {
        GranaryPartition store = new GranaryPartition();
        CHECKS.due("8: none", 0, store::chunks);
        store.load(1, 0, 0, 1);
        CHECKS.due("8: one row", 1, store::chunks);
        store.load(15, 0, 0, 1);
        CHECKS.due("8: 16 rows", 1, store::chunks);
        store.load(1, 0, 0, 1);
        CHECKS.due("8: 17 rows", 2, store::chunks);
        store.load(40, 0, 0, 1);
        CHECKS.due("8: 57 rows", 4, store::chunks);
    }

    private static void plainEncoding() {
        // Differences of 1024 and more need 11 bits a row, and so offsets cost more than plain ones.
        encoded("9: plain", ofValues(-999, 999, -500, 500), 0, 0, 'p', 44);
        encoded("9: one row", loaded(1, 500, 0, 999), 0, 0, 'p', 11);
        encoded("9: 1998 apart", ofValues(-999, 999, -998, 998, -997, 997, -996, 996, 0), 0, 0, 'p', 99);
    }

    private static void runEncoding() {
        encoded("9: two runs", ofValues(-999, -999, -999, -999, 999, 999, 999, 999), 0, 0, 'r', 30);
        encoded("9: missing is like missing", ofValues(null, null, null, null, 999, 999, 999, 999, 999), 0, 0, 'r', 30);
        encoded("9: a run that comes again", ofValues(5, 5, 5, 5, 5, 999, 999, 999, 999, 999, 5, 5, 5, 5, 5, 5),
                0, 0, 'd', 38);
    }

    private static void dictionaryEncoding() {
        encoded("9: one value", loaded(16, 7, 0, 8), 0, 0, 'd', 11);
        encoded("9: two values", ofValues(0, 999, 0, 999, 0, 999, 0, 999), 0, 0, 'd', 30);
        encoded("9: three values need two bits", ofValues(0, 999, -999, 0, 999, -999, 0, 999, -999, 0, 999, -999),
                0, 0, 'd', 57);
        encoded("9: four values need two bits", ofValues(0, 999, -999, 500, 0, 999, -999, 500, 0, 999, -999, 500),
                0, 0, 'd', 68);
        encoded("9: five values need three bits",
                ofValues(0, 999, -999, 500, -500, 0, 999, -999, 500, -500, 0, 999, -999, 500, -500, 0),
                0, 0, 'd', 103);
    }

    private static void offsetEncoding() {
        GranaryPartition store = loaded(40, 0, 1, 20);
        encoded("10: 0 to 15", store, 0, 0, 'o', 79);
        encoded("10: 0 to 36", store, 0, 1, 'o', 15 + 6 * 16);
        encoded("10: 0 to 3", store, 0, 2, 'o', 47);
        encoded("10: 0 to 2", store, 2, 3, 'o', 31);
        encoded("10: a difference of 16", ofValues(0, 16, 1, 15, 2, 14, 3, 13, 4, 12, 5, 11), 0, 0, 'o', 75);
        encoded("10: a difference of 15", ofValues(0, 15, 1, 14, 2, 13, 3, 12, 4, 11, 5, 10), 0, 0, 'o', 63);
        encoded("10: below 0", ofValues(-999, -998, -997, -996, -999, -998, -997, -996), 0, 0, 'o', 31);
    }

    private static void equalCosts() {
        // 11 each for plain and dictionary: plain is the first one of these.
        encoded("9: plain ahead of dictionary", ofValues(3), 0, 0, 'p', 11);
        // Three rows 0, 999, 999: two runs 30, dictionary 22 and 3.
        encoded("9: dictionary below runs", ofValues(0, 999, 999), 0, 0, 'd', 25);
        // Eight rows in two runs: 30 by runs, 30 by dictionary.
        encoded("9: runs ahead of dictionary", ofValues(0, 0, 0, 0, 999, 999, 999, 999), 0, 0, 'r', 30);
        // Seven neighbours 0 to 3 with a difference of 1: dictionary 22 + 7, offsets 15 + 7.
        encoded("9: offsets below dictionary", ofValues(0, 1, 0, 1, 0, 1, 0), 0, 0, 'o', 22);
        // Eleven rows with two values four apart: dictionary 22 + 11, offsets 15 + 3 times 11.
        encoded("9: dictionary below offsets", ofValues(0, 4, 0, 4, 0, 4, 0, 4, 0, 4, 0), 0, 0, 'd', 33);
        // Seven rows with two values two apart: dictionary 22 + 7, offsets 15 + 2 times 7.
        encoded("9: dictionary ahead of offsets", ofValues(0, 2, 0, 2, 0, 2, 0), 0, 0, 'd', 29);
        // Five rows in three runs: plain 55, runs 45, dictionary 33 + 10, offsets 15 + 50.
        encoded("9: dictionary of three", ofValues(0, 0, 600, 900, 900), 0, 0, 'd', 43);
        // Fifteen rows with a difference of 512 to 1023: plain 165, offsets 15 + 150.
        encoded("9: plain ahead of offsets", ofValues(0, 1000 - 1, 90, 180, 270, 360, 450, 540, 630, 720, 810, 900,
                45, 135, 225), 0, 0, 'p', 165);
    }

    private static void missingInEncodings() {
        encoded("9: no offsets if one is missing", ofValues(0, 1, 2, 3, 4, 5, 6, 7, 8, null), 0, 0, 'p', 110);
        encoded("9: missing is in the dictionary", ofValues(1, null, 1, null, 1, null, 1, null), 0, 0, 'd', 30);
        GranaryPartition store = loaded(16, 10, 0, 30);
        store.clear(3, 0);
        store.set(4, 0, 999);
        store.remove(5);
        encoded("9: changes lie beside", store, 0, 0, 'd', 11);
        store.mend(0);
        encoded("9: mended", store, 0, 0, 'd', 65);
    }

    private static void baseOfGrowingChunk() {
        GranaryPartition store = loaded(4, 5, 0, 9);
        encoded("9: four rows", store, 0, 0, 'd', 11);
        store.set(0, 0, 6);
        store.mend(0);
        encoded("9: mended", store, 0, 0, 'o', 19);
        store.remove(1);
        store.load(12, 6, 0, 9);
        encoded("9: loaded behind what was mended", store, 0, 0, 'o', 31);
        CHECKS.due("11: a load does not lie beside", 1, () -> store.changes(0));
        store.mend(0);
        encoded("9: one is removed now", store, 0, 0, 'r', 60);
    }

    private static void encodingExceptions() {
        GranaryPartition store = loaded(17, 0, 1, 20);
        int[][] wrong = {{-1, 0}, {2, 0}, {0, -1}, {0, 4}, {Integer.MAX_VALUE, 0}, {0, Integer.MIN_VALUE}};
        for (int[] a : wrong) {
            CHECKS.index("9: exception", () -> store.encoding(a[0], a[1]));
            CHECKS.index("10: exception", () -> store.bits(a[0], a[1]));
            CHECKS.index("12: exception", () -> store.least(a[0], a[1]));
            CHECKS.index("13: exception", () -> store.greatest(a[0], a[1]));
            CHECKS.index("14: exception", () -> store.mayMiss(a[0], a[1]));
        }
        CHECKS.index("11: exception", () -> store.changes(-1));
        CHECKS.index("11: exception", () -> store.changes(2));
        CHECKS.index("9: no chunk", () -> new GranaryPartition().encoding(0, 0));
    }

    private static void changesAreCounted() {
        GranaryPartition store = loaded(20, 0, 1, 20);
        CHECKS.due("11: none", 0, () -> store.changes(0));
        store.set(3, 0, 3);
        store.clear(3, 1);
        store.clear(3, 1);
        store.remove(3);
        store.set(16, 0, 3);
        CHECKS.due("11: of the first chunk", 4, () -> store.changes(0));
        CHECKS.due("11: of the second chunk", 1, () -> store.changes(1));
        CHECKS.state("11: a refused one", () -> store.set(3, 0, 0));
        CHECKS.due("11: does not count", 4, () -> store.changes(0));
        store.mend(0);
        CHECKS.due("11: mended", 0, () -> store.changes(0));
        CHECKS.due("11: the other one stays", 1, () -> store.changes(1));
    }

    private static void bounded(String what, GranaryPartition store, int chunk, int column, int least, int greatest) {
        CHECKS.due(what + ", least", least, () -> store.least(chunk, column));
        CHECKS.due(what + ", greatest", greatest, () -> store.greatest(chunk, column));
    }

    private static void boundsWiden() {
        GranaryPartition store = loaded(20, 5, 1, 30);
        bounded("12: loaded", store, 0, 0, 5, 20);
        bounded("12: loaded", store, 1, 0, 21, 24);
        store.set(17, 0, -3);
        bounded("12: set", store, 1, 0, -3, 24);
        bounded("12: the other chunk", store, 0, 0, 5, 20);
        bounded("12: another column", store, 1, 2, 4, 4);
        store.set(17, 0, 500);
        store.set(17, 0, 22);
        bounded("12: all that were set", store, 1, 0, -3, 500);
        store.clear(17, 0);
        store.remove(19);
        bounded("12: what goes does not narrow", store, 1, 0, -3, 500);
        store.load(1, 600, 0, 999);
        bounded("12: loaded behind", store, 1, 0, -3, 600);
        store.mend(1);
        bounded("12: mended", store, 1, 0, 21, 600);
        store.remove(20);
        store.mend(1);
        bounded("12: mended again", store, 1, 0, 21, 23);
    }

    private static void boundsOfNothing() {
        GranaryPartition store = loaded(2, 5, 1, 30);
        store.clear(0, 1);
        store.clear(1, 1);
        bounded("12: base values count", store, 0, 1, 25, 36);
        store.mend(0);
        CHECKS.element("12: none", () -> store.least(0, 1));
        CHECKS.element("13: none", () -> store.greatest(0, 1));
        CHECKS.due("14: missing", true, () -> store.mayMiss(0, 1));
        store.set(0, 1, -999);
        bounded("12: the first one again", store, 0, 1, -999, -999);
        store.remove(0);
        store.remove(1);
        store.mend(0);
        CHECKS.element("12: all are removed", () -> store.least(0, 0));
        CHECKS.element("13: all are removed", () -> store.greatest(0, 0));
        CHECKS.due("14: all are removed", false, () -> store.mayMiss(0, 0));
        store.load(1, 999, 0, 999);
        bounded("12: loaded behind removed ones", store, 0, 0, 0, 0);
    }

    private static void boundsExceptions() {
        GranaryPartition store = loaded(1, 5, 1, 30);
        store.clear(0, 0);
        store.mend(0);
        CHECKS.index("12: the index comes first", () -> store.least(1, 0));
        CHECKS.index("13: the index comes first", () -> store.greatest(0, 4));
        CHECKS.element("12: none is kept", () -> store.least(0, 0));
        CHECKS.element("13: none is kept", () -> store.greatest(0, 0));
    }

    private static void mayMissIsKept() {
        GranaryPartition store = loaded(20, 5, 1, 30);
        CHECKS.due("14: loaded", false, () -> store.mayMiss(0, 0));
        store.clear(0, 0);
        CHECKS.due("14: cleared", true, () -> store.mayMiss(0, 0));
        CHECKS.due("14: another column", false, () -> store.mayMiss(0, 1));
        CHECKS.due("14: another chunk", false, () -> store.mayMiss(1, 0));
        store.set(0, 0, 5);
        CHECKS.due("14: set again", true, () -> store.mayMiss(0, 0));
        store.mend(0);
        CHECKS.due("14: mended", false, () -> store.mayMiss(0, 0));
        store.clear(0, 0);
        store.mend(0);
        CHECKS.due("14: a base value is", true, () -> store.mayMiss(0, 0));
        store.set(0, 0, 5);
        CHECKS.due("14: the base value still is", true, () -> store.mayMiss(0, 0));
    }

    private static void mendRenews() {
        GranaryPartition store = loaded(17, 0, 1, 20);
        CHECKS.due("15: nothing lay there", 0, () -> store.mend(0));
        store.set(0, 0, 9);
        store.clear(1, 0);
        store.set(16, 0, 1);
        CHECKS.due("15: two writes", 2, () -> store.mend(0));
        CHECKS.due("15: none any more", 0, () -> store.mend(0));
        CHECKS.due("15: values stay", 9, () -> store.valueAt(0, 0));
        CHECKS.element("15: missing stays", () -> store.valueAt(1, 0));
        CHECKS.due("15: the other chunk", 1, () -> store.changes(1));
        CHECKS.due("15: is no write", 4, store::moment);
    }

    private static void mendPassesOverRemovedRows() {
        GranaryPartition store = loaded(16, 10, 0, 30);
        store.set(3, 0, 500);
        store.remove(3);
        CHECKS.due("15: two writes", 2, () -> store.mend(0));
        CHECKS.due("15: its number does not count", 10, () -> store.greatest(0, 0));
        CHECKS.due("15: its missing one does not count", false, () -> store.mayMiss(0, 0));
        encoded("15: its missing one is encoded", store, 0, 0, 'd', 38);
        CHECKS.due("15: rows are alive", 14, () -> store.remove(0));
        CHECKS.state("15: it stays removed", () -> store.set(3, 0, 1));
    }

    private static void mendExceptions() {
        GranaryPartition store = loaded(17, 0, 1, 20);
        store.compare('>', 0, -1);
        store.open(0, -1, 0, 1);
        CHECKS.state("15: a scan is open", () -> store.mend(0));
        CHECKS.index("15: the index comes first", () -> store.mend(2));
        store.read(1);
        CHECKS.state("15: a scan is still open", () -> store.mend(1));
        store.read(1);
        CHECKS.due("15: none is open", 0, () -> store.mend(1));
        CHECKS.index("15: below", () -> store.mend(-1));
        CHECKS.index("15: above", () -> store.mend(2));
    }
}
