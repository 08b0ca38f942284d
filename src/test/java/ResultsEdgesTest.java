/** The boundary cases of the promises 28 to 33 and of the groups and kept results they rest on, each in a test of its own. */
public final class ResultsEdgesTest {
    public static void main(String[] args) {
        Cases.run(ResultsEdgesTest.class, 28, 33);
    }

    /** A store whose scan 0 is done: the groups are those of the column 0, the measure is the column 0, too. */
    private static GranaryPartition grouped(Integer... keys) {
        GranaryPartition store = Stores.ofKeys(keys);
        store.open(0, 0, 0, 1);
        store.read(40);
        return store;
    }

    /** A store whose scan 0 is done and has no key; the measure is the column 0. */
    private static GranaryPartition measured(Integer... measures) {
        GranaryPartition store = Stores.ofKeys(measures);
        store.open(0, -1, 0, 1);
        store.read(40);
        return store;
    }

    private static GranaryPartition withOpenScan() {
        GranaryPartition store = Stores.rising(32);
        store.open(0, 0, 0, 1);
        store.read(1);
        return store;
    }

    // ---- 28

    static void promise28RefusesScanBelow0(Checks checks) {
        GranaryPartition store = grouped(1);
        checks.element("-1", () -> store.groups(-1));
        checks.element("far below", () -> store.groups(Integer.MIN_VALUE));
    }

    static void promise28RefusesScanBehindTheLast(Checks checks) {
        GranaryPartition store = grouped(1);
        checks.element("1", () -> store.groups(1));
        checks.element("far above", () -> store.groups(Integer.MAX_VALUE));
    }

    static void promise28RefusesAScanThatIsNotDone(Checks checks) {
        GranaryPartition store = withOpenScan();
        checks.state("one chunk is left", () -> store.groups(0));
        store.read(1);
        checks.due("done", 32, () -> store.groups(0));
    }

    static void promise28NoRowIsNoGroup(Checks checks) {
        GranaryPartition store = Stores.rising(16);
        store.join('n', 0, 0);
        store.open(1, 0, 0, 1);
        store.read(1);
        checks.due("groups", 0, () -> store.groups(0));
    }

    static void promise28NoRowIsNoGroupWithoutAKeyEither(Checks checks) {
        GranaryPartition store = Stores.rising(16);
        store.join('n', 0, 0);
        store.open(1, -1, 0, 1);
        store.read(1);
        checks.due("groups", 0, () -> store.groups(0));
    }

    static void promise28OneRowIsOneGroup(Checks checks) {
        GranaryPartition store = grouped(5);
        checks.due("groups", 1, () -> store.groups(0));
    }

    static void promise28LikeKeysAreOneGroup(Checks checks) {
        GranaryPartition store = grouped(5, 6, 5, 6, 5);
        checks.due("groups", 2, () -> store.groups(0));
    }

    static void promise28AllRowsCanHaveAGroupEach(Checks checks) {
        GranaryPartition store = Stores.rising(160);
        store.open(0, 0, 0, 1);
        store.read(40);
        checks.due("groups", 160, () -> store.groups(0));
        checks.due("the first one", 0, () -> store.keyAt(0, 0));
        checks.due("the last one", 159, () -> store.keyAt(0, 159));
        checks.due("its row", 1, () -> store.total(0, 159, 0));
    }

    static void promise28AllRowsCanHaveOneGroup(Checks checks) {
        GranaryPartition store = Stores.rising(160);
        store.open(0, -1, 0, 1);
        store.read(40);
        checks.due("groups", 1, () -> store.groups(0));
        checks.due("its rows", 160, () -> store.total(0, 0, 0));
    }

    static void promise28MissingKeysAreAGroupOfTheirOwn(Checks checks) {
        GranaryPartition store = grouped(null, 0, null);
        checks.due("groups", 2, () -> store.groups(0));
        checks.due("two rows", 2, () -> store.total(0, 0, 0));
    }

    static void promise28WithoutAKeyMissingMeasuresAreOneGroup(Checks checks) {
        GranaryPartition store = measured(null, 0, null);
        checks.due("groups", 1, () -> store.groups(0));
    }

    static void promise28StaysWhenRowsChange(Checks checks) {
        GranaryPartition store = grouped(5, 6);
        store.remove(0);
        store.set(1, 0, 7);
        store.load(1, 0, 0, 1);
        checks.due("groups", 2, () -> store.groups(0));
        checks.due("key", 5, () -> store.keyAt(0, 0));
    }

    // ---- 29: "by rising keys, a missing one ahead of all others"

    static void promise29RefusesScanBelow0(Checks checks) {
        GranaryPartition store = grouped(1);
        checks.element("-1", () -> store.keyAt(-1, 0));
        checks.element("far below", () -> store.keyAt(Integer.MIN_VALUE, 0));
    }

    static void promise29RefusesScanBehindTheLast(Checks checks) {
        GranaryPartition store = grouped(1);
        checks.element("1", () -> store.keyAt(1, 0));
        checks.element("far above", () -> store.keyAt(Integer.MAX_VALUE, 0));
    }

    static void promise29RefusesAScanThatIsNotDone(Checks checks) {
        GranaryPartition store = withOpenScan();
        checks.state("a group of the first chunk", () -> store.keyAt(0, 0));
    }

    static void promise29RefusesIndexBelow0(Checks checks) {
        GranaryPartition store = grouped(1, 2);
        checks.index("-1", () -> store.keyAt(0, -1));
        checks.index("far below", () -> store.keyAt(0, Integer.MIN_VALUE));
    }

    static void promise29RefusesIndexBehindTheLast(Checks checks) {
        GranaryPartition store = grouped(1, 2);
        checks.due("1 is the last", 2, () -> store.keyAt(0, 1));
        checks.index("2", () -> store.keyAt(0, 2));
        checks.index("far above", () -> store.keyAt(0, Integer.MAX_VALUE));
    }

    static void promise29RefusesAnyIndexIfThereIsNoGroup(Checks checks) {
        GranaryPartition store = Stores.rising(0);
        store.open(0, -1, 0, 1);
        checks.index("0", () -> store.keyAt(0, 0));
    }

    static void promise29ScanComesAheadOfIndex(Checks checks) {
        GranaryPartition store = withOpenScan();
        checks.element("no such scan", () -> store.keyAt(1, -1));
        checks.state("not done", () -> store.keyAt(0, -1));
    }

    static void promise29MissingIs1000AndAheadOfTheLeastKey(Checks checks) {
        GranaryPartition store = grouped(-999, null);
        checks.due("0", 1000, () -> store.keyAt(0, 0));
        checks.due("1", -999, () -> store.keyAt(0, 1));
    }

    static void promise29MissingAloneIs1000(Checks checks) {
        GranaryPartition store = grouped(null, null);
        checks.due("0", 1000, () -> store.keyAt(0, 0));
        checks.index("1", () -> store.keyAt(0, 1));
    }

    static void promise29GreatestKeyIsTheLast(Checks checks) {
        GranaryPartition store = grouped(999, 0, null);
        checks.due("2", 999, () -> store.keyAt(0, 2));
    }

    static void promise29NegativeKeysComeAheadOf0(Checks checks) {
        GranaryPartition store = grouped(0, 1, -1, -2);
        checks.due("0", -2, () -> store.keyAt(0, 0));
        checks.due("1", -1, () -> store.keyAt(0, 1));
        checks.due("2", 0, () -> store.keyAt(0, 2));
        checks.due("3", 1, () -> store.keyAt(0, 3));
    }

    static void promise29KeysRiseNotTheParts(Checks checks) {
        // The parts of 4, 5 and 3 are 0, 1 and 3; they are spilled, too.
        GranaryPartition store = grouped(5, 4, 3, 8);
        checks.due("0", 3, () -> store.keyAt(0, 0));
        checks.due("1", 4, () -> store.keyAt(0, 1));
        checks.due("2", 5, () -> store.keyAt(0, 2));
        checks.due("3", 8, () -> store.keyAt(0, 3));
    }

    static void promise29WithoutAKeyItIs0(Checks checks) {
        GranaryPartition store = measured(7, null);
        checks.due("0", 0, () -> store.keyAt(0, 0));
    }

    // ---- 30: "0 for the count of rows, 1 for the number of measures that are not missing, 2 for their sum"

    static void promise30RefusesScanBelow0(Checks checks) {
        GranaryPartition store = grouped(1);
        checks.element("-1", () -> store.total(-1, 0, 0));
        checks.element("far below", () -> store.total(Integer.MIN_VALUE, 0, 0));
    }

    static void promise30RefusesScanBehindTheLast(Checks checks) {
        GranaryPartition store = grouped(1);
        checks.element("1", () -> store.total(1, 0, 0));
        checks.element("far above", () -> store.total(Integer.MAX_VALUE, 0, 0));
    }

    static void promise30RefusesAScanThatIsNotDone(Checks checks) {
        GranaryPartition store = withOpenScan();
        checks.state("a group of the first chunk", () -> store.total(0, 0, 0));
    }

    static void promise30RefusesIndexBelow0(Checks checks) {
        GranaryPartition store = grouped(1, 2);
        checks.index("-1", () -> store.total(0, -1, 0));
        checks.index("far below", () -> store.total(0, Integer.MIN_VALUE, 0));
    }

    static void promise30RefusesIndexBehindTheLast(Checks checks) {
        GranaryPartition store = grouped(1, 2);
        checks.due("1 is the last", 1, () -> store.total(0, 1, 0));
        checks.index("2", () -> store.total(0, 2, 0));
        checks.index("far above", () -> store.total(0, Integer.MAX_VALUE, 0));
    }

    static void promise30RefusesWhatBelow0(Checks checks) {
        GranaryPartition store = grouped(1, 2);
        checks.argument("-1", () -> store.total(0, 1, -1));
        checks.argument("far below", () -> store.total(0, 1, Integer.MIN_VALUE));
    }

    static void promise30RefusesWhat3(Checks checks) {
        GranaryPartition store = grouped(1, 2);
        checks.due("2 is asked", 1, () -> store.total(0, 0, 2));
        checks.argument("3", () -> store.total(0, 0, 3));
        checks.argument("far above", () -> store.total(0, 0, Integer.MAX_VALUE));
    }

    static void promise30ScanComesAheadOfIndexAndWhat(Checks checks) {
        GranaryPartition store = withOpenScan();
        checks.element("no such scan", () -> store.total(1, -1, 3));
        checks.state("not done", () -> store.total(0, -1, 3));
    }

    static void promise30IndexComesAheadOfWhat(Checks checks) {
        GranaryPartition store = grouped(1, 2);
        checks.index("2", () -> store.total(0, 2, 3));
        checks.index("-1", () -> store.total(0, -1, -1));
    }

    private static void totals(Checks checks, GranaryPartition store, int count, int number, int sum) {
        checks.due("count", count, () -> store.total(0, 0, 0));
        checks.due("number", number, () -> store.total(0, 0, 1));
        checks.due("sum", sum, () -> store.total(0, 0, 2));
    }

    static void promise30MissingMeasuresCountAsRowsAlone(Checks checks) {
        totals(checks, measured(7, null, 8), 3, 2, 15);
    }

    static void promise30AllMeasuresMissing(Checks checks) {
        totals(checks, measured(null, null), 2, 0, 0);
    }

    static void promise30Measure0IsNotMissing(Checks checks) {
        totals(checks, measured(0, 0), 2, 2, 0);
    }

    static void promise30SumCanBeBelow0(Checks checks) {
        totals(checks, measured(-999, -999, 1), 3, 3, -1997);
    }

    static void promise30GreatestSumOfAll(Checks checks) {
        GranaryPartition store = Stores.rising(160);
        for (int row = 0; row < 160; row++) {
            store.set(row, 1, 999);
        }
        store.open(0, -1, 1, 1);
        store.read(40);
        totals(checks, store, 160, 160, 159840);
    }

    static void promise30KeyCanBeTheMeasure(Checks checks) {
        GranaryPartition store = grouped(7, null, 7);
        totals(checks, store, 1, 0, 0);
        checks.due("count of 7", 2, () -> store.total(0, 1, 0));
        checks.due("sum of 7", 14, () -> store.total(0, 1, 2));
    }

    // ---- 31

    static void promise31RefusesScanBelow0(Checks checks) {
        GranaryPartition store = grouped(1);
        checks.element("-1", () -> store.edge(-1, 0, true));
        checks.element("far below", () -> store.edge(Integer.MIN_VALUE, 0, false));
    }

    static void promise31RefusesScanBehindTheLast(Checks checks) {
        GranaryPartition store = grouped(1);
        checks.element("1", () -> store.edge(1, 0, true));
        checks.element("far above", () -> store.edge(Integer.MAX_VALUE, 0, false));
    }

    static void promise31RefusesAScanThatIsNotDone(Checks checks) {
        GranaryPartition store = withOpenScan();
        checks.state("a group of the first chunk", () -> store.edge(0, 0, true));
    }

    static void promise31RefusesIndexBelow0(Checks checks) {
        GranaryPartition store = grouped(1, 2);
        checks.index("-1", () -> store.edge(0, -1, true));
        checks.index("far below", () -> store.edge(0, Integer.MIN_VALUE, false));
    }

    static void promise31RefusesIndexBehindTheLast(Checks checks) {
        GranaryPartition store = grouped(1, 2);
        checks.due("1 is the last", 2, () -> store.edge(0, 1, true));
        checks.index("2", () -> store.edge(0, 2, true));
        checks.index("far above", () -> store.edge(0, Integer.MAX_VALUE, false));
    }

    static void promise31ScanComesAheadOfIndex(Checks checks) {
        GranaryPartition store = withOpenScan();
        checks.element("no such scan", () -> store.edge(1, -1, true));
        checks.state("not done", () -> store.edge(0, -1, true));
    }

    static void promise31IndexComesAheadOfAllMissing(Checks checks) {
        GranaryPartition store = measured(null, null);
        checks.index("1", () -> store.edge(0, 1, true));
        checks.unsupported("0", () -> store.edge(0, 0, true));
    }

    static void promise31AllMeasuresMissing(Checks checks) {
        GranaryPartition store = measured(null, null);
        checks.unsupported("least", () -> store.edge(0, 0, false));
        checks.unsupported("greatest", () -> store.edge(0, 0, true));
    }

    private static void edges(Checks checks, GranaryPartition store, int least, int greatest) {
        checks.due("least", least, () -> store.edge(0, 0, false));
        checks.due("greatest", greatest, () -> store.edge(0, 0, true));
    }

    static void promise31OneMeasureIsBothEdges(Checks checks) {
        edges(checks, measured(null, 7, null), 7, 7);
    }

    static void promise31LeastOfAllIsBothEdges(Checks checks) {
        edges(checks, measured(-999, null), -999, -999);
    }

    static void promise31GreatestOfAllIsBothEdges(Checks checks) {
        edges(checks, measured(999, null), 999, 999);
    }

    static void promise31WidestEdges(Checks checks) {
        edges(checks, measured(0, 999, -999, 0), -999, 999);
    }

    static void promise31Measure0IsAnEdge(Checks checks) {
        edges(checks, measured(0, 5), 0, 5);
        edges(checks, measured(0, -5), -5, 0);
    }

    static void promise31EdgesOfRowsThatWereSetAside(Checks checks) {
        GranaryPartition store = Stores.ofKeys(0, 4, 8, 8, 8);
        for (int row = 2; row < 5; row++) {
            store.set(row, 1, 10 * row);
        }
        store.open(0, 0, 1, 1);
        store.read(1);
        checks.due("aside", 3, () -> store.aside(0));
        checks.due("least", 20, () -> store.edge(0, 2, false));
        checks.due("greatest", 40, () -> store.edge(0, 2, true));
    }

    // ---- 32: "no load, no removal, and no set or clear of a column that is its key, its measure, or in its filter"

    private static GranaryPartition kept() {
        GranaryPartition store = Stores.rising(16);
        // The filter compares the column 0, the key is the column 1, the measure the column 2.
        store.open(0, 1, 2, 1);
        store.read(1);
        return store;
    }

    static void promise32RefusesScanBelow0(Checks checks) {
        GranaryPartition store = kept();
        checks.element("-1", () -> store.isKept(-1));
        checks.element("far below", () -> store.isKept(Integer.MIN_VALUE));
    }

    static void promise32RefusesScanBehindTheLast(Checks checks) {
        GranaryPartition store = kept();
        checks.element("1", () -> store.isKept(1));
        checks.element("far above", () -> store.isKept(Integer.MAX_VALUE));
    }

    static void promise32OpenScanIsNotKept(Checks checks) {
        GranaryPartition store = withOpenScan();
        checks.due("open", false, () -> store.isKept(0));
        store.read(1);
        checks.due("done", true, () -> store.isKept(0));
    }

    static void promise32DoneAtOnceIsKept(Checks checks) {
        GranaryPartition store = Stores.rising(0);
        store.open(0, -1, 0, 1);
        checks.due("kept", true, () -> store.isKept(0));
        store.load(1, 0, 0, 1);
        checks.due("until a load", false, () -> store.isKept(0));
    }

    static void promise32LoadTouchesIt(Checks checks) {
        GranaryPartition store = kept();
        store.load(1, 0, 0, 1);
        checks.due("kept", false, () -> store.isKept(0));
    }

    static void promise32LoadIntoANewChunkTouchesIt(Checks checks) {
        GranaryPartition store = kept();
        store.load(40, 0, 0, 1);
        checks.due("kept", false, () -> store.isKept(0));
    }

    static void promise32RemovalTouchesIt(Checks checks) {
        GranaryPartition store = kept();
        store.remove(15);
        checks.due("kept", false, () -> store.isKept(0));
    }

    static void promise32RemovalOfARowThatIsNotChosenTouchesIt(Checks checks) {
        GranaryPartition store = Stores.rising(16);
        store.compare('=', 0, 3);
        store.open(1, -1, 2, 1);
        store.read(1);
        store.remove(9);
        checks.due("kept", false, () -> store.isKept(0));
    }

    static void promise32SetOfItsFiltersColumnTouchesIt(Checks checks) {
        GranaryPartition store = kept();
        store.set(0, 0, 500);
        checks.due("kept", false, () -> store.isKept(0));
    }

    static void promise32SetOfItsKeyTouchesIt(Checks checks) {
        GranaryPartition store = kept();
        store.set(0, 1, 500);
        checks.due("kept", false, () -> store.isKept(0));
    }

    static void promise32SetOfItsMeasureTouchesIt(Checks checks) {
        GranaryPartition store = kept();
        store.set(0, 2, 500);
        checks.due("kept", false, () -> store.isKept(0));
    }

    static void promise32ClearsOfItsColumnsTouchIt(Checks checks) {
        for (int column = 0; column < 3; column++) {
            GranaryPartition store = kept();
            store.clear(0, column);
            checks.due("clear of column " + column, false, () -> store.isKept(0));
        }
    }

    static void promise32SetAndClearOfAnotherColumnDoNot(Checks checks) {
        GranaryPartition store = kept();
        store.set(0, 3, 500);
        store.clear(1, 3);
        checks.due("kept", true, () -> store.isKept(0));
    }

    static void promise32SetOfTheSameValueTouchesIt(Checks checks) {
        GranaryPartition store = kept();
        store.set(0, 2, 0);
        checks.due("kept", false, () -> store.isKept(0));
    }

    static void promise32ClearOfAMissingValueTouchesIt(Checks checks) {
        GranaryPartition store = Stores.rising(16);
        store.clear(0, 2);
        store.open(0, 1, 2, 1);
        store.read(1);
        store.clear(0, 2);
        checks.due("kept", false, () -> store.isKept(0));
    }

    static void promise32WithoutAKeyNoColumnIsItsKey(Checks checks) {
        for (int column = 0; column < 4; column++) {
            GranaryPartition store = Stores.rising(16);
            store.compare('<', 2, 999);
            store.open(1, -1, 2, 1);
            store.read(1);
            store.set(0, column, 500);
            checks.due("set of column " + column, column != 2, () -> store.isKept(0));
        }
    }

    static void promise32MissingFilterHasItsColumn(Checks checks) {
        GranaryPartition store = Stores.rising(16);
        store.compare('m', 3, 5000);
        store.open(1, -1, 0, 1);
        store.read(1);
        store.set(0, 3, 500);
        checks.due("kept", false, () -> store.isKept(0));
    }

    static void promise32ColumnsOfBothPartsAreInTheFilter(Checks checks) {
        for (int column = 0; column < 4; column++) {
            GranaryPartition store = Stores.rising(16);
            store.compare('=', 1, 0);
            store.join('a', 0, 1);
            store.join('n', 2, 0);
            store.open(3, -1, 2, 1);
            store.read(1);
            store.set(0, column, 500);
            checks.due("set of column " + column, column == 3, () -> store.isKept(0));
        }
    }

    static void promise32RefusedWritesTouchNothing(Checks checks) {
        GranaryPartition store = kept();
        checks.argument("load", () -> store.load(0, 0, 0, 1));
        checks.argument("set", () -> store.set(0, 0, 1000));
        checks.index("clear", () -> store.clear(16, 0));
        checks.index("remove", () -> store.remove(16));
        checks.due("kept", true, () -> store.isKept(0));
    }

    static void promise32MendingTouchesNothing(Checks checks) {
        GranaryPartition store = kept();
        store.set(0, 3, 500);
        store.mend(0);
        checks.due("kept", true, () -> store.isKept(0));
    }

    // ---- 32: "since the scan was opened"

    static void promise32WriteJustAheadOfOpeningDoesNotCount(Checks checks) {
        GranaryPartition store = Stores.rising(16);
        store.set(0, 0, 5);
        store.remove(1);
        store.open(0, -1, 0, 1);
        store.read(1);
        checks.due("kept", true, () -> store.isKept(0));
    }

    static void promise32SetJustBehindOpeningCounts(Checks checks) {
        GranaryPartition store = Stores.rising(16);
        store.open(0, -1, 0, 1);
        store.set(0, 0, 5);
        store.read(1);
        checks.due("kept", false, () -> store.isKept(0));
    }

    static void promise32RemovalJustBehindOpeningCounts(Checks checks) {
        GranaryPartition store = Stores.rising(16);
        store.open(0, -1, 0, 1);
        store.remove(1);
        store.read(1);
        checks.due("kept", false, () -> store.isKept(0));
    }

    static void promise32LoadJustBehindOpeningCounts(Checks checks) {
        GranaryPartition store = Stores.rising(16);
        store.open(0, -1, 0, 1);
        store.load(1, 0, 0, 1);
        store.read(1);
        checks.due("kept", false, () -> store.isKept(0));
    }

    static void promise32SetBackDoesNotMakeItKeptAgain(Checks checks) {
        GranaryPartition store = kept();
        store.set(0, 0, 500);
        store.set(0, 0, 0);
        checks.due("kept", false, () -> store.isKept(0));
    }

    // ---- 32: "only as long as fewer than 3 other scans were done behind it"

    private static void scan(GranaryPartition store) {
        store.open(0, -1, 0, 1);
        store.read(40);
    }

    static void promise32TwoScansBehindKeepIt(Checks checks) {
        GranaryPartition store = kept();
        scan(store);
        scan(store);
        checks.due("kept", true, () -> store.isKept(0));
    }

    static void promise32ThreeScansBehindDoNot(Checks checks) {
        GranaryPartition store = kept();
        scan(store);
        scan(store);
        scan(store);
        checks.due("the first one", false, () -> store.isKept(0));
        checks.due("the second one", true, () -> store.isKept(1));
        checks.due("the last one", true, () -> store.isKept(3));
    }

    static void promise32OpenScansBehindDoNotCount(Checks checks) {
        GranaryPartition store = kept();
        store.open(0, -1, 0, 1);
        store.open(0, -1, 0, 1);
        store.open(0, -1, 0, 1);
        checks.due("they are open", true, () -> store.isKept(0));
        store.read(1);
        checks.due("they are done", false, () -> store.isKept(0));
    }

    static void promise32ScansBehindCountEvenIfTheyAreNotKept(Checks checks) {
        GranaryPartition store = kept();
        for (int i = 0; i < 3; i++) {
            store.open(0, -1, 3, 1);
            store.set(0, 3, 5);
            store.read(1);
        }
        checks.due("not kept", false, () -> store.isKept(3));
        checks.due("yet behind it", false, () -> store.isKept(0));
    }

    static void promise32FourScansOfOneStepAreDoneByRisingNumbers(Checks checks) {
        GranaryPartition store = Stores.rising(16);
        for (int i = 0; i < 4; i++) {
            store.open(0, -1, 0, 1);
        }
        store.read(1);
        checks.due("three are behind the first one", false, () -> store.isKept(0));
        checks.due("two are behind the second one", true, () -> store.isKept(1));
        checks.due("none is behind the last one", true, () -> store.isKept(3));
    }

    static void promise32ScansOfALaterStepAreBehindThoseOfAnEarlierOne(Checks checks) {
        GranaryPartition store = Stores.rising(32);
        store.open(0, -1, 0, 1);
        store.read(1);
        for (int i = 1; i < 4; i++) {
            store.open(0, -1, 0, 1);
        }
        store.read(1);
        checks.due("the first one is done, the others are open", true, () -> store.isKept(0));
        store.read(1);
        checks.due("three are behind the first one", false, () -> store.isKept(0));
        checks.due("two are behind the second one", true, () -> store.isKept(1));
    }

    static void promise32ScanWithChunksIsBehindOneDoneAtOnce(Checks checks) {
        GranaryPartition store = Stores.rising(0);
        store.open(0, -1, 0, 1);
        store.load(16, 0, 1, 999);
        store.open(0, 1, 2, 1);
        checks.due("the one done at once is touched by the load", false, () -> store.isKept(0));
        store.read(1);
        checks.due("kept", true, () -> store.isKept(1));
    }

    static void promise32ScansDoneAtOnceAreBehindAsWell(Checks checks) {
        GranaryPartition store = Stores.rising(0);
        for (int i = 0; i < 4; i++) {
            store.open(0, -1, 0, 1);
        }
        checks.due("three are behind", false, () -> store.isKept(0));
        checks.due("two are behind", true, () -> store.isKept(1));
    }

    // ---- 33

    static void promise33FindsNoneWithoutScans(Checks checks) {
        GranaryPartition store = Stores.rising(16);
        checks.element("none", () -> store.keptFor(0, -1, 0));
    }

    static void promise33FindsNoneOfNoSuchFilter(Checks checks) {
        GranaryPartition store = kept();
        checks.element("-1", () -> store.keptFor(-1, 1, 2));
        checks.element("1", () -> store.keptFor(1, 1, 2));
        checks.element("far away", () -> store.keptFor(Integer.MAX_VALUE, 1, 2));
    }

    static void promise33FindsNoneOfNoSuchKey(Checks checks) {
        GranaryPartition store = kept();
        checks.element("-2", () -> store.keptFor(0, -2, 2));
        checks.element("4", () -> store.keptFor(0, 4, 2));
        checks.element("far away", () -> store.keptFor(0, Integer.MIN_VALUE, 2));
    }

    static void promise33FindsNoneOfNoSuchMeasure(Checks checks) {
        GranaryPartition store = kept();
        checks.element("-1", () -> store.keptFor(0, 1, -1));
        checks.element("4", () -> store.keptFor(0, 1, 4));
        checks.element("far away", () -> store.keptFor(0, 1, Integer.MAX_VALUE));
    }

    static void promise33FindsTheSame(Checks checks) {
        GranaryPartition store = kept();
        checks.due("the same", 0, () -> store.keptFor(0, 1, 2));
        checks.element("another key", () -> store.keptFor(0, 2, 2));
        checks.element("no key", () -> store.keptFor(0, -1, 2));
        checks.element("another measure", () -> store.keptFor(0, 1, 1));
    }

    static void promise33LikeFilterIsNotTheSame(Checks checks) {
        GranaryPartition store = kept();
        store.compare('>', 0, -999);
        checks.element("another one", () -> store.keptFor(1, 1, 2));
    }

    static void promise33AnotherGrantIsTheSame(Checks checks) {
        GranaryPartition store = kept();
        store.open(0, 1, 2, 6);
        store.read(1);
        checks.due("the later one", 1, () -> store.keptFor(0, 1, 2));
    }

    static void promise33GreatestNumberOfSeveral(Checks checks) {
        GranaryPartition store = Stores.rising(16);
        for (int i = 0; i < 4; i++) {
            store.open(0, 1, 2, 1);
        }
        store.read(1);
        checks.due("3", 3, () -> store.keptFor(0, 1, 2));
    }

    static void promise33GreaterNumberIsFoundOnceItIsDone(Checks checks) {
        GranaryPartition store = Stores.rising(32);
        store.open(0, 3, 0, 1);
        store.read(1);
        store.open(0, 1, 2, 1);
        store.read(1);
        store.open(0, 1, 2, 1);
        // The scan 1 is done in the next step, the scan 2 in the one behind it.
        store.read(1);
        checks.due("the second one is open", 1, () -> store.keptFor(0, 1, 2));
        store.read(1);
        checks.due("both are kept", 2, () -> store.keptFor(0, 1, 2));
    }

    static void promise33OpenScansAreNotFound(Checks checks) {
        GranaryPartition store = kept();
        store.open(0, 1, 2, 1);
        checks.due("the done one", 0, () -> store.keptFor(0, 1, 2));
    }

    static void promise33TouchedScansAreNotFound(Checks checks) {
        GranaryPartition store = kept();
        store.set(0, 2, 500);
        checks.element("touched", () -> store.keptFor(0, 1, 2));
    }

    static void promise33TouchedWhileOpenIsPassedForAnOlderOne(Checks checks) {
        GranaryPartition store = kept();
        store.open(0, 1, 2, 1);
        store.read(1);
        checks.due("both", 1, () -> store.keptFor(0, 1, 2));
        store.set(0, 2, 500);
        store.open(0, 1, 2, 1);
        store.read(1);
        checks.due("the new one alone", 2, () -> store.keptFor(0, 1, 2));
    }

    static void promise33NotFoundWithThreeDoneBehind(Checks checks) {
        GranaryPartition store = kept();
        scan(store);
        scan(store);
        checks.due("two", 0, () -> store.keptFor(0, 1, 2));
        scan(store);
        checks.element("three", () -> store.keptFor(0, 1, 2));
    }

    static void promise33WithoutAKey(Checks checks) {
        GranaryPartition store = kept();
        scan(store);
        checks.due("-1", 1, () -> store.keptFor(0, -1, 0));
        checks.element("0 is another key", () -> store.keptFor(0, 0, 0));
    }
}
