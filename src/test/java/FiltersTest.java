/** Promises 16 to 18: filters and what they can be. */
public final class FiltersTest {
    private static final Checks CHECKS = new Checks();

    public static void main(String[] args) {
        compareNumbers();
        compareExceptions();
        joinNumbers();
        joinExceptions();
        joinComparisons();
        longChain();
        comparisonsOfRows();
        threeValuesOfRows();
        canBeOfComparisons();
        canBeOfMissing();
        canBeOfJoined();
        canBeOfNothing();
        canBeExceptions();
        CHECKS.end("FiltersTest");
    }

    private static GranaryPartition loaded(int many, int first, int step, int turn) {
        return RowsTest.loaded(many, first, step, turn);
    }

    private static void compareNumbers() {
        GranaryPartition store = new GranaryPartition();
        CHECKS.due("16: first", 0, () -> store.compare('<', 0, -999));
        CHECKS.due("16: second", 1, () -> store.compare('=', 3, 999));
        CHECKS.due("16: third", 2, () -> store.compare('>', 1, 0));
        CHECKS.due("16: of no meaning", 3, () -> store.compare('m', 2, 5000));
        CHECKS.due("16: of no meaning", 4, () -> store.compare('m', 2, Integer.MIN_VALUE));
        CHECKS.due("16: no write", 0, store::moment);
    }

    private static void compareExceptions() {
        GranaryPartition store = new GranaryPartition();
        for (char kind : new char[] {'a', 'o', 'n', 'x', 'M', 0, (char) 65535, '!'}) {
            CHECKS.argument("16: kind " + (int) kind, () -> store.compare(kind, 0, 0));
        }
        for (char kind : new char[] {'<', '=', '>', 'm'}) {
            CHECKS.argument("16: column below", () -> store.compare(kind, -1, 0));
            CHECKS.argument("16: column above", () -> store.compare(kind, 4, 0));
        }
        for (char kind : new char[] {'<', '=', '>'}) {
            CHECKS.argument("16: number below", () -> store.compare(kind, 0, -1000));
            CHECKS.argument("16: number above", () -> store.compare(kind, 0, 1000));
        }
        for (int i = 0; i < 30; i++) {
            int due = i;
            CHECKS.due("16: filter", due, () -> store.compare('=', 0, 0));
        }
        CHECKS.state("16: 30 filters", () -> store.compare('=', 0, 0));
        CHECKS.argument("16: the argument comes first", () -> store.compare('=', 4, 0));
        CHECKS.argument("16: the kind comes first", () -> store.compare('x', 0, 0));
    }

    private static void joinNumbers() {
        GranaryPartition store = new GranaryPartition();
        store.compare('<', 0, 5);
        CHECKS.due("17: of itself", 1, () -> store.join('a', 0, 0));
        CHECKS.due("17: or", 2, () -> store.join('o', 0, 1));
        CHECKS.due("17: not", 3, () -> store.join('n', 2, 99));
        CHECKS.due("17: not", 4, () -> store.join('n', 3, -1));
    }

    private static void joinExceptions() {
        GranaryPartition store = new GranaryPartition();
        CHECKS.element("17: none", () -> store.join('n', 0, 0));
        store.compare('<', 0, 5);
        for (char kind : new char[] {'<', '=', '>', 'm', 'x', 'A', 0}) {
            CHECKS.argument("17: kind " + (int) kind, () -> store.join(kind, 0, 0));
            CHECKS.argument("17: the kind comes first", () -> store.join(kind, 5, 5));
        }
        for (char kind : new char[] {'a', 'o'}) {
            CHECKS.element("17: first above", () -> store.join(kind, 1, 0));
            CHECKS.element("17: first below", () -> store.join(kind, -1, 0));
            CHECKS.element("17: second above", () -> store.join(kind, 0, 1));
            CHECKS.element("17: second below", () -> store.join(kind, 0, -1));
        }
        CHECKS.element("17: not of none", () -> store.join('n', 1, 0));
        for (int i = 1; i < 30; i++) {
            store.compare('<', 0, 5);
        }
        CHECKS.state("17: 30 filters", () -> store.join('n', 0, 0));
        CHECKS.element("17: the element comes first", () -> store.join('a', 0, 30));
        CHECKS.argument("17: the kind comes first", () -> store.join('x', 0, 30));
    }

    private static void joinComparisons() {
        GranaryPartition store = new GranaryPartition();
        store.compare('m', 0, 0);
        store.join('a', 0, 0);
        store.join('o', 1, 1);
        store.join('a', 2, 2);
        CHECKS.due("17: 12 comparisons", 4, () -> store.join('o', 3, 2));
        CHECKS.state("17: 13 comparisons", () -> store.join('a', 4, 0));
        CHECKS.state("17: 13 comparisons", () -> store.join('o', 0, 4));
        CHECKS.state("17: 16 comparisons", () -> store.join('a', 3, 3));
        CHECKS.element("17: the element comes first", () -> store.join('a', 4, 5));
        CHECKS.due("17: not counts none", 5, () -> store.join('n', 4, 4));
        CHECKS.state("17: they are in it still", () -> store.join('a', 5, 0));
        CHECKS.due("17: 10 and 2", 6, () -> store.join('o', 3, 1));
        CHECKS.due("17: 12 comparisons again", 7, () -> store.join('o', 6, 1));
    }

    private static void longChain() {
        GranaryPartition store = loaded(16, 0, 1, 20);
        store.compare('<', 0, 5);
        for (int i = 0; i < 29; i++) {
            store.join('n', i, 0);
        }
        CHECKS.due("17: an odd chain", 105 + 5, () -> store.sum(29, 0));
        CHECKS.due("17: an even chain", 10, () -> store.sum(28, 0));
        store.set(0, 0, 99);
        CHECKS.due("18: an odd chain", 3, () -> store.canBe(29, 0));
    }

    /** The rows that are chosen, told by a sum over a column in which each row has a number of its own. */
    private static void chosen(String what, GranaryPartition store, int filter, int... rows) {
        int sum = 0;
        for (int row : rows) {
            sum += 1 << row;
        }
        int due = sum;
        CHECKS.due(what, due, () -> store.sum(filter, 1));
    }

    private static GranaryPartition numbered(Integer... values) {
        GranaryPartition store = loaded(values.length, 0, 0, 1);
        for (int row = 0; row < values.length; row++) {
            store.set(row, 1, 1 << row);
            if (values[row] == null) {
                store.clear(row, 0);
            } else {
                store.set(row, 0, values[row]);
            }
        }
        return store;
    }

    private static void comparisonsOfRows() {
        GranaryPartition store = numbered(-1, 0, 1, null);
        chosen("16: less", store, store.compare('<', 0, 0), 0);
        chosen("16: equal", store, store.compare('=', 0, 0), 1);
        chosen("16: greater", store, store.compare('>', 0, 0), 2);
        chosen("16: missing", store, store.compare('m', 0, 0), 3);
        chosen("16: all numbers", store, store.compare('<', 0, 999), 0, 1, 2);
        chosen("16: none", store, store.compare('<', 0, -1));
        chosen("16: none missing", store, store.compare('m', 2, 0));
    }

    private static void threeValuesOfRows() {
        // Column 0 has -1, 0, 1 and missing; column 2 has them in turn for each.
        GranaryPartition store = loaded(9, 0, 0, 1);
        for (int row = 0; row < 9; row++) {
            store.set(row, 1, 1 << row);
            fill(store, row, 0, row / 3);
            fill(store, row, 2, row % 3);
        }
        int one = store.compare('>', 0, 0);
        int other = store.compare('>', 2, 0);
        // Rows by three: false with false, true, unknown; true with these; unknown with these.
        int and = store.join('a', one, other);
        int or = store.join('o', one, other);
        chosen("17: and is true", store, and, 4);
        chosen("17: and is false", store, store.join('n', and, 0), 0, 1, 2, 3, 6);
        chosen("17: or is true", store, or, 1, 3, 4, 5, 7);
        chosen("17: or is false", store, store.join('n', or, 0), 0);
        chosen("17: not of unknown is unknown", store, store.join('n', one, 0), 0, 1, 2);
    }

    private static void fill(GranaryPartition store, int row, int column, int what) {
        if (what == 2) {
            store.clear(row, column);
        } else {
            store.set(row, column, what);
        }
    }

    private static void canBeOfComparisons() {
        // The column 0 has 5 to 20, and no other number can be by the bounds.
        GranaryPartition store = loaded(16, 5, 1, 30);
        int[][] due = {
            {'<', 5, 2}, {'<', 6, 3}, {'<', 20, 3}, {'<', 21, 1}, {'<', -999, 2}, {'<', 999, 1},
            {'>', 4, 1}, {'>', 5, 3}, {'>', 19, 3}, {'>', 20, 2}, {'>', 999, 2}, {'>', -999, 1},
            {'=', 4, 2}, {'=', 5, 3}, {'=', 12, 3}, {'=', 20, 3}, {'=', 21, 2},
        };
        for (int[] d : due) {
            int filter = store.compare((char) d[0], 0, d[1]);
            CHECKS.due("18: " + (char) d[0] + d[1], d[2], () -> store.canBe(filter, 0));
        }
        GranaryPartition even = loaded(16, 10, 0, 30);
        even.compare('=', 0, 10);
        even.compare('=', 0, 11);
        CHECKS.due("18: one number, equal", 1, () -> even.canBe(0, 0));
        CHECKS.due("18: one number, another", 2, () -> even.canBe(1, 0));
        even.clear(0, 0);
        CHECKS.due("18: may be missing", 5, () -> even.canBe(0, 0));
        even.set(0, 0, 12);
        CHECKS.due("18: from 10 to 12", 7, () -> even.canBe(0, 0));
        CHECKS.due("18: 11 lies between", 7, () -> even.canBe(1, 0));
        even.mend(0);
        CHECKS.due("18: mended", 3, () -> even.canBe(0, 0));
    }

    private static void canBeOfMissing() {
        GranaryPartition store = loaded(1, 10, 0, 30);
        store.compare('m', 0, 0);
        store.compare('>', 0, 5);
        CHECKS.due("18: none missing", 2, () -> store.canBe(0, 0));
        store.clear(0, 0);
        CHECKS.due("18: may be missing", 3, () -> store.canBe(0, 0));
        CHECKS.due("18: may be missing", 5, () -> store.canBe(1, 0));
        store.mend(0);
        CHECKS.due("18: no bounds", 1, () -> store.canBe(0, 0));
        CHECKS.due("18: no bounds", 4, () -> store.canBe(1, 0));
    }

    private static void canBeOfJoined() {
        // In the chunk: only true, only false, only unknown; true or false.
        GranaryPartition store = loaded(2, 0, 1, 30);
        store.clear(0, 2);
        store.clear(1, 2);
        store.mend(0);
        int[] parts = {store.compare('<', 0, 9), store.compare('>', 0, 9), store.compare('=', 2, 0),
            store.compare('=', 0, 1)};
        int[] alone = {1, 2, 4, 3};
        int[][] and = {{1, 2, 4, 3}, {2, 2, 2, 2}, {4, 2, 4, 6}, {3, 2, 6, 3}};
        int[][] or = {{1, 1, 1, 1}, {1, 2, 4, 3}, {1, 4, 4, 5}, {1, 3, 5, 3}};
        int[] not = {2, 1, 4, 3};
        for (int i = 0; i < 4; i++) {
            int one = parts[i];
            CHECKS.due("18: alone " + i, alone[i], () -> store.canBe(one, 0));
            for (int j = 0; j < 4; j++) {
                joinedCanBe(i, j, and[i][j], or[i][j]);
            }
            int filter = store.join('n', one, 0);
            CHECKS.due("18: not " + i, not[i], () -> store.canBe(filter, 0));
        }
        // Parts are taken by themselves: a filter and its contrary can both be true by the bounds.
        int contrary = store.join('n', 3, 0);
        int never = store.join('a', 3, contrary);
        CHECKS.due("18: contrary parts", 3, () -> store.canBe(never, 0));
    }

    private static void joinedCanBe(int i, int j, int and, int or) {
        GranaryPartition store = loaded(2, 0, 1, 30);
        store.clear(0, 2);
        store.clear(1, 2);
        store.mend(0);
        store.compare('<', 0, 9);
        store.compare('>', 0, 9);
        store.compare('=', 2, 0);
        store.compare('=', 0, 1);
        int both = store.join('a', i, j);
        int either = store.join('o', i, j);
        CHECKS.due("18: " + i + " and " + j, and, () -> store.canBe(both, 0));
        CHECKS.due("18: " + i + " or " + j, or, () -> store.canBe(either, 0));
    }

    private static void canBeOfNothing() {
        GranaryPartition store = loaded(1, 10, 0, 30);
        store.remove(0);
        store.mend(0);
        store.compare('m', 0, 0);
        store.compare('>', 0, 5);
        store.join('a', 0, 1);
        store.join('o', 0, 1);
        store.join('n', 0, 1);
        for (int filter = 0; filter < 5; filter++) {
            int asked = filter;
            CHECKS.due("18: no row that counts", 0, () -> store.canBe(asked, 0));
        }
    }

    private static void canBeExceptions() {
        GranaryPartition store = loaded(17, 10, 0, 30);
        store.compare('m', 0, 0);
        CHECKS.element("18: filter below", () -> store.canBe(-1, 0));
        CHECKS.element("18: filter above", () -> store.canBe(1, 0));
        CHECKS.element("18: the filter comes first", () -> store.canBe(1, 2));
        CHECKS.index("18: chunk below", () -> store.canBe(0, -1));
        CHECKS.index("18: chunk above", () -> store.canBe(0, 2));
        CHECKS.due("18: the last chunk", 2, () -> store.canBe(0, 1));
    }
}
