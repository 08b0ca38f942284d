/** Stores with which the tests of boundary cases begin. */
final class Stores {
    private static final int MOST_LOADED = 40;

    private Stores() { }

    static GranaryPartition loaded(int many, int first, int step, int turn) {
        GranaryPartition store = new GranaryPartition();
        store.load(many, first, step, turn);
        return store;
    }

    /** Rows with their own number as their column 0, and the filter 0, which chooses each row that has one. */
    static GranaryPartition rising(int many) {
        GranaryPartition store = new GranaryPartition();
        for (int rows = 0; rows < many; rows += MOST_LOADED) {
            store.load(Math.min(MOST_LOADED, many - rows), rows, 1, 999);
        }
        store.compare('>', 0, -999);
        return store;
    }

    /** One row for each value of the column 0, null for a missing one; all other columns are 0 or rise slowly. */
    static GranaryPartition ofValues(Integer... values) {
        GranaryPartition store = loaded(values.length, 0, 0, 1);
        for (int row = 0; row < values.length; row++) {
            put(store, row, 0, values[row]);
        }
        return store;
    }

    /** The same, and the values are base values. */
    static GranaryPartition ofBase(Integer... values) {
        GranaryPartition store = ofValues(values);
        for (int chunk = 0; chunk < store.chunks(); chunk++) {
            store.mend(chunk);
        }
        return store;
    }

    /** The same as ofValues, with the filter 0, which chooses all rows by their column 3. */
    static GranaryPartition ofKeys(Integer... keys) {
        GranaryPartition store = ofValues(keys);
        store.compare('=', 3, 0);
        return store;
    }

    static void put(GranaryPartition store, int row, int column, Integer value) {
        if (value == null) {
            store.clear(row, column);
        } else {
            store.set(row, column, value);
        }
    }
}
