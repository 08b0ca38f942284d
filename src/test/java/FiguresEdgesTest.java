/** The boundary cases of the promises 34 to 38 and of the bounded sums they rest on, each in a test of its own. */
public final class FiguresEdgesTest {
    public static void main(String[] args) {
        Cases.run(FiguresEdgesTest.class, 34, 38);
    }

    // ---- 34

    static void promise34RefusesFilterBelow0(Checks checks) {
        GranaryPartition store = Stores.rising(16);
        checks.element("-1", () -> store.sum(-1, 0));
        checks.element("far below", () -> store.sum(Integer.MIN_VALUE, 0));
    }

    static void promise34RefusesFilterBehindTheLast(Checks checks) {
        GranaryPartition store = Stores.rising(16);
        checks.element("1", () -> store.sum(1, 0));
        checks.element("far above", () -> store.sum(Integer.MAX_VALUE, 0));
    }

    static void promise34RefusesMeasureBelow0(Checks checks) {
        GranaryPartition store = Stores.rising(16);
        checks.argument("-1", () -> store.sum(0, -1));
        checks.argument("far below", () -> store.sum(0, Integer.MIN_VALUE));
    }

    static void promise34RefusesMeasure4(Checks checks) {
        GranaryPartition store = Stores.rising(3);
        checks.due("3 is one", 3, () -> store.sum(0, 3));
        checks.argument("4", () -> store.sum(0, 4));
        checks.argument("far above", () -> store.sum(0, Integer.MAX_VALUE));
    }

    static void promise34FilterComesAheadOfMeasure(Checks checks) {
        GranaryPartition store = Stores.rising(16);
        checks.element("filter", () -> store.sum(1, 4));
    }

    static void promise34NoRows(Checks checks) {
        GranaryPartition store = Stores.rising(0);
        checks.due("sum", 0, () -> store.sum(0, 0));
    }

    static void promise34NoRowIsChosen(Checks checks) {
        GranaryPartition store = Stores.rising(16);
        store.join('n', 0, 0);
        checks.due("sum", 0, () -> store.sum(1, 0));
    }

    static void promise34AllRowsAreRemoved(Checks checks) {
        GranaryPartition store = Stores.rising(2);
        store.remove(0);
        store.remove(1);
        checks.due("sum", 0, () -> store.sum(0, 0));
    }

    static void promise34MissingMeasureCountsNothing(Checks checks) {
        GranaryPartition store = Stores.rising(3);
        store.clear(2, 1);
        checks.due("0 and 1", 1, () -> store.sum(0, 1));
    }

    static void promise34AllMeasuresMissing(Checks checks) {
        GranaryPartition store = Stores.rising(2);
        store.clear(0, 1);
        store.clear(1, 1);
        checks.due("sum", 0, () -> store.sum(0, 1));
    }

    static void promise34UnknownIsNotChosen(Checks checks) {
        GranaryPartition store = Stores.rising(3);
        store.set(2, 1, 50);
        store.clear(2, 0);
        checks.due("0 and 1", 1, () -> store.sum(0, 1));
    }

    static void promise34GreatestSumOfAll(Checks checks) {
        GranaryPartition store = Stores.rising(160);
        for (int row = 0; row < 160; row++) {
            store.set(row, 1, 999);
        }
        checks.due("160 times 999", 159840, () -> store.sum(0, 1));
    }

    static void promise34LeastSumOfAll(Checks checks) {
        GranaryPartition store = Stores.rising(160);
        for (int row = 0; row < 160; row++) {
            store.set(row, 1, -999);
        }
        checks.due("160 times -999", -159840, () -> store.sum(0, 1));
    }

    static void promise34IsOfNowAndNotOfAnOpenScan(Checks checks) {
        GranaryPartition store = Stores.rising(3);
        store.open(0, -1, 0, 1);
        store.set(0, 0, 100);
        store.remove(1);
        checks.due("sum", 102, () -> store.sum(0, 0));
    }

    // ---- 35

    static void promise35RefusesFilterBelow0(Checks checks) {
        GranaryPartition store = Stores.rising(16);
        checks.element("-1", () -> store.bound(-1, 0, true));
        checks.element("far below", () -> store.bound(Integer.MIN_VALUE, 0, false));
    }

    static void promise35RefusesFilterBehindTheLast(Checks checks) {
        GranaryPartition store = Stores.rising(16);
        checks.element("1", () -> store.bound(1, 0, true));
        checks.element("far above", () -> store.bound(Integer.MAX_VALUE, 0, false));
    }

    static void promise35RefusesMeasureBelow0(Checks checks) {
        GranaryPartition store = Stores.rising(16);
        checks.argument("-1", () -> store.bound(0, -1, true));
        checks.argument("far below", () -> store.bound(0, Integer.MIN_VALUE, false));
    }

    static void promise35RefusesMeasure4(Checks checks) {
        GranaryPartition store = Stores.rising(3);
        checks.due("3 is one", 6, () -> store.bound(0, 3, true));
        checks.argument("4", () -> store.bound(0, 4, true));
        checks.argument("far above", () -> store.bound(0, Integer.MAX_VALUE, false));
    }

    static void promise35FilterComesAheadOfMeasure(Checks checks) {
        GranaryPartition store = Stores.rising(16);
        checks.element("filter", () -> store.bound(1, 4, true));
    }

    private static void bounded(Checks checks, GranaryPartition store, int filter, int below, int above) {
        checks.due("from below", below, () -> store.bound(filter, 0, false));
        checks.due("from above", above, () -> store.bound(filter, 0, true));
    }

    /** Rows with these values of the column 0, which are base values, and a filter of their column 3. */
    private static GranaryPartition based(Integer... values) {
        GranaryPartition store = Stores.ofBase(values);
        store.compare('=', 3, 0);
        return store;
    }

    static void promise35NoChunks(Checks checks) {
        bounded(checks, Stores.rising(0), 0, 0, 0);
    }

    static void promise35FilterThatCannotBeTrueCountsNothing(Checks checks) {
        GranaryPartition store = based(-5, 5);
        store.join('n', 0, 0);
        bounded(checks, store, 1, 0, 0);
    }

    static void promise35UnknownAloneCountsNothing(Checks checks) {
        GranaryPartition store = based(-5, 5);
        store.clear(0, 2);
        store.clear(1, 2);
        store.mend(0);
        store.compare('=', 2, 0);
        bounded(checks, store, 1, 0, 0);
    }

    static void promise35MeasureWithoutBoundsCountsNothing(Checks checks) {
        bounded(checks, based(null, null), 0, 0, 0);
    }

    static void promise35AllRowsRemovedCountNothing(Checks checks) {
        GranaryPartition store = based(-5, 5);
        store.remove(0);
        store.remove(1);
        bounded(checks, store, 0, 0, 0);
    }

    static void promise35SureFilterCountsEachRowFully(Checks checks) {
        bounded(checks, based(5, 7), 0, 10, 14);
    }

    static void promise35SureFilterCountsNegativeRowsFully(Checks checks) {
        bounded(checks, based(-7, -5), 0, -14, -10);
    }

    static void promise35OneRowIsKnown(Checks checks) {
        bounded(checks, based(-999), 0, -999, -999);
        bounded(checks, based(999), 0, 999, 999);
        bounded(checks, based(0), 0, 0, 0);
    }

    static void promise35RemovedRowCountsNothingYetBoundsStay(Checks checks) {
        GranaryPartition store = based(5, 7, 9);
        store.remove(2);
        bounded(checks, store, 0, 10, 18);
        store.mend(0);
        bounded(checks, store, 0, 10, 14);
    }

    static void promise35FilterThatCanBeFalseCountsFrom0(Checks checks) {
        GranaryPartition store = based(5, 7);
        store.set(0, 3, 1);
        bounded(checks, store, 0, 0, 14);
    }

    static void promise35FilterThatCanBeFalseCountsTo0(Checks checks) {
        GranaryPartition store = based(-7, -5);
        store.set(0, 3, 1);
        bounded(checks, store, 0, -14, 0);
    }

    static void promise35FilterThatCanBeUnknownCountsFrom0(Checks checks) {
        GranaryPartition store = based(5, 7);
        store.clear(0, 3);
        bounded(checks, store, 0, 0, 14);
    }

    static void promise35FilterThatCanBeUnknownCountsTo0(Checks checks) {
        GranaryPartition store = based(-7, -5);
        store.clear(0, 3);
        bounded(checks, store, 0, -14, 0);
    }

    static void promise35MeasureThatMayBeMissingCountsFrom0(Checks checks) {
        bounded(checks, based(5, 7, null), 0, 0, 21);
    }

    static void promise35MeasureThatMayBeMissingCountsTo0(Checks checks) {
        bounded(checks, based(-7, -5, null), 0, -21, 0);
    }

    static void promise35BoundsOnBothSidesOf0AreTheSameIfUnsure(Checks checks) {
        GranaryPartition store = based(-7, 5);
        bounded(checks, store, 0, -14, 10);
        store.set(0, 3, 1);
        bounded(checks, store, 0, -14, 10);
    }

    static void promise35ChunksAreBoundedByThemselves(Checks checks) {
        GranaryPartition store = Stores.rising(33);
        store.compare('<', 0, 17);
        // Sixteen rows from 0 to 15 for sure, sixteen of at most 31, and 32 not at all.
        bounded(checks, store, 1, 0, 16 * 15 + 16 * 31);
        store.compare('>', 0, 15);
        // The second and the third chunk for sure, with 16 to 31 and 32.
        bounded(checks, store, 2, 16 * 16 + 32, 16 * 31 + 32);
    }

    static void promise35SetsCountForTheBoundsAndRemovalsForTheRows(Checks checks) {
        GranaryPartition store = based(5, 5);
        store.set(0, 0, 999);
        store.set(0, 0, -999);
        bounded(checks, store, 0, -1998, 1998);
    }

    static void promise35WidestBoundsOfAll(Checks checks) {
        GranaryPartition store = Stores.rising(160);
        for (int row = 0; row < 160; row += 16) {
            store.set(row, 1, 999);
            store.set(row, 1, -999);
        }
        checks.due("from below", -159840, () -> store.bound(0, 1, false));
        checks.due("from above", 159840, () -> store.bound(0, 1, true));
    }

    static void promise35IsOfTheRowsOfNow(Checks checks) {
        GranaryPartition store = based(5);
        store.open(0, -1, 0, 1);
        store.load(1, 0, 0, 1);
        bounded(checks, store, 0, 0, 10);
    }

    // ---- 36: "divided by 4 times the number of rows"; "there are no rows"

    static void promise36NoRows(Checks checks) {
        checks.arithmetic("a new store", () -> new GranaryPartition().meanBits());
    }

    static void promise36RefusedLoadIsNoRow(Checks checks) {
        GranaryPartition store = new GranaryPartition();
        checks.argument("load", () -> store.load(0, 0, 0, 1));
        checks.arithmetic("still none", store::meanBits);
    }

    static void promise36OneRow(Checks checks) {
        GranaryPartition store = Stores.loaded(1, 5, 0, 9);
        checks.due("four times 11 by 4", 11.0, store::meanBits);
    }

    static void promise36RemovedRowsAreRows(Checks checks) {
        GranaryPartition store = Stores.loaded(2, 5, 0, 9);
        store.remove(0);
        store.remove(1);
        checks.due("four times 11 by 8", 5.5, store::meanBits);
        store.mend(0);
        checks.due("and mended", 5.5, store::meanBits);
    }

    static void promise36HasAFraction(Checks checks) {
        GranaryPartition store = Stores.loaded(3, 5, 0, 9);
        checks.due("44 by 12", 44.0 / 12.0, store::meanBits);
    }

    static void promise36IsTheSumOfAllChunks(Checks checks) {
        GranaryPartition store = Stores.loaded(17, 5, 0, 9);
        // In the first chunk three columns of one value, and 0 to 3 in the column 2; then one row.
        checks.due("33 and 47 and 44 by 68", (33.0 + 47.0 + 44.0) / 68.0, store::meanBits);
    }

    static void promise36ChangesDoNotCountUntilMended(Checks checks) {
        GranaryPartition store = Stores.loaded(2, 5, 0, 9);
        store.set(0, 0, 999);
        checks.due("beside", 5.5, store::meanBits);
        store.mend(0);
        checks.due("mended", (22.0 + 33.0) / 8.0, store::meanBits);
    }

    static void promise36FullStore(Checks checks) {
        GranaryPartition store = new GranaryPartition();
        for (int i = 0; i < 10; i++) {
            store.load(16, 5, 0, 9);
        }
        checks.due("800 by 640", 1.25, store::meanBits);
    }

    // ---- 37: "Returns their number divided by that of all looks"; "there were none"

    static void promise37NoScans(Checks checks) {
        GranaryPartition store = Stores.rising(16);
        checks.arithmetic("none", store::skippedShare);
    }

    static void promise37NoLookYet(Checks checks) {
        GranaryPartition store = Stores.rising(16);
        store.open(0, -1, 0, 1);
        checks.arithmetic("opened", store::skippedShare);
    }

    static void promise37ScanWithoutChunksLooksAtNone(Checks checks) {
        GranaryPartition store = Stores.rising(0);
        store.open(0, -1, 0, 1);
        checks.arithmetic("done at once", store::skippedShare);
    }

    static void promise37NoneIsSkipped(Checks checks) {
        GranaryPartition store = Stores.rising(16);
        store.open(0, -1, 0, 1);
        store.read(1);
        checks.due("0 by 1", 0.0f, store::skippedShare);
    }

    static void promise37AllAreSkipped(Checks checks) {
        GranaryPartition store = Stores.rising(32);
        store.compare('<', 0, 0);
        store.open(1, -1, 0, 1);
        store.read(2);
        checks.due("2 by 2", 1.0f, store::skippedShare);
    }

    static void promise37HasAFraction(Checks checks) {
        GranaryPartition store = Stores.rising(48);
        store.compare('<', 0, 16);
        store.open(1, -1, 0, 1);
        store.read(3);
        checks.due("2 by 3", 2.0f / 3.0f, store::skippedShare);
    }

    static void promise37OpenScansCount(Checks checks) {
        GranaryPartition store = Stores.rising(48);
        store.compare('<', 0, 16);
        store.open(1, -1, 0, 1);
        store.read(2);
        checks.due("1 by 2", 0.5f, store::skippedShare);
    }

    static void promise37EachScanLooksByItself(Checks checks) {
        GranaryPartition store = Stores.rising(16);
        store.compare('<', 0, 0);
        store.open(0, -1, 0, 1);
        store.open(0, -1, 0, 1);
        store.open(1, -1, 0, 1);
        store.read(1);
        checks.due("1 by 3", 1.0f / 3.0f, store::skippedShare);
    }

    static void promise37StepsThatNoneLooksAtAreNoLooks(Checks checks) {
        GranaryPartition store = Stores.rising(32);
        store.compare('<', 0, 16);
        store.open(1, -1, 0, 1);
        store.read(1);
        store.open(1, -1, 0, 1);
        store.load(16, 0, 0, 1);
        store.read(3);
        // Two looks each; the third chunk was passed.
        checks.due("2 by 4", 0.5f, store::skippedShare);
    }

    // ---- 38

    static void promise38NewStoreIsSound(Checks checks) {
        checks.due("new", true, () -> new GranaryPartition().isSound());
    }

    static void promise38ExtremeValuesAreSound(Checks checks) {
        GranaryPartition store = Stores.ofValues(-999, 999, null);
        checks.due("beside", true, store::isSound);
        store.mend(0);
        checks.due("mended", true, store::isSound);
    }

    static void promise38RemovedRowsOutsideTheBoundsAreSound(Checks checks) {
        GranaryPartition store = Stores.rising(16);
        store.set(0, 0, 999);
        store.remove(0);
        store.mend(0);
        checks.due("its value is not within the bounds", 15, () -> store.greatest(0, 0));
        checks.due("sound", true, store::isSound);
    }

    static void promise38AllRowsRemovedAreSound(Checks checks) {
        GranaryPartition store = Stores.rising(2);
        store.remove(0);
        store.remove(1);
        store.mend(0);
        checks.due("sound", true, store::isSound);
    }

    static void promise38ResultsThatAreNotKeptDoNotMatter(Checks checks) {
        GranaryPartition store = Stores.rising(16);
        store.open(0, 0, 0, 1);
        store.read(1);
        store.set(0, 0, 500);
        checks.due("its result is of another moment", 0, () -> store.keyAt(0, 0));
        checks.due("sound", true, store::isSound);
    }

    static void promise38KeptResultsOfSpilledPartsAreSound(Checks checks) {
        GranaryPartition store = Stores.rising(160);
        store.open(0, 0, 1, 1);
        store.open(0, -1, 1, 1);
        store.open(0, 3, 0, 1);
        store.read(40);
        checks.due("kept", true, () -> store.isKept(0));
        checks.due("sound", true, store::isSound);
    }

    static void promise38KeptResultWithMissingKeysAndMeasuresIsSound(Checks checks) {
        GranaryPartition store = Stores.ofKeys(null, 0, null, -999, 999);
        store.open(0, 0, 0, 1);
        store.read(1);
        checks.due("kept", true, () -> store.isKept(0));
        checks.due("sound", true, store::isSound);
    }

    static void promise38KeptEmptyResultIsSound(Checks checks) {
        GranaryPartition store = Stores.rising(16);
        store.join('n', 0, 0);
        store.open(1, 0, 0, 1);
        store.open(1, -1, 0, 1);
        store.read(1);
        checks.due("kept", true, () -> store.isKept(1));
        checks.due("sound", true, store::isSound);
    }

    static void promise38KeptWhileOtherColumnsChangeIsSound(Checks checks) {
        GranaryPartition store = Stores.rising(32);
        store.open(0, -1, 0, 1);
        store.set(31, 3, 500);
        store.read(2);
        store.clear(0, 1);
        store.mend(0);
        checks.due("kept", true, () -> store.isKept(0));
        checks.due("sound", true, store::isSound);
    }

    static void promise38AskingChangesNothing(Checks checks) {
        GranaryPartition store = Stores.rising(16);
        store.open(0, 0, 0, 1);
        store.read(1);
        checks.due("sound", true, store::isSound);
        checks.due("groups", 16, () -> store.groups(0));
        checks.due("moment", 1, store::moment);
        checks.due("sound again", true, store::isSound);
    }

    // ---- 38: "each value that is set lies within the bounds of its chunk"; only a value put in secretly does not

    private static void soundIfPut(Checks checks, GranaryPartition store, int row, int column, int value, boolean due) {
        checks.due("sound until then", true, store::isSound);
        Tamper.put(store, row, column, value);
        checks.due("it is there", value, () -> store.valueAt(row, column));
        checks.due("sound", due, store::isSound);
    }

    static void promise38ValueAtTheBoundsIsSound(Checks checks) {
        soundIfPut(checks, Stores.rising(32), 17, 0, 16, true);
        soundIfPut(checks, Stores.rising(32), 17, 0, 31, true);
    }

    static void promise38ValueOneBelowTheLeastIsNotSound(Checks checks) {
        soundIfPut(checks, Stores.rising(32), 17, 0, 15, false);
    }

    static void promise38ValueOneAboveTheGreatestIsNotSound(Checks checks) {
        soundIfPut(checks, Stores.rising(32), 17, 0, 32, false);
    }

    static void promise38FirstRowIsLookedAt(Checks checks) {
        soundIfPut(checks, Stores.rising(160), 0, 0, -1, false);
    }

    static void promise38LastRowIsLookedAt(Checks checks) {
        soundIfPut(checks, Stores.rising(160), 159, 0, 160, false);
    }

    static void promise38EachColumnIsLookedAt(Checks checks) {
        for (int column = 0; column < 4; column++) {
            soundIfPut(checks, Stores.rising(16), 3, column, 500, false);
        }
    }

    static void promise38ValueInAChunkWithoutBoundsIsNotSound(Checks checks) {
        soundIfPut(checks, Stores.ofBase(null, null), 0, 0, 0, false);
    }

    // ---- 38: "each result that is kept is what comes of the rows as they are now, one by one"

    /** Groups by the column 3, with the column 0 as the measure: 1 and 5 with the key 0, 1, 2 and 5 with the key 1. */
    private static GranaryPartition withKeptResult() {
        GranaryPartition store = Stores.ofBase(1, 5, 1, 2, 5);
        store.set(2, 3, 1);
        store.set(3, 3, 1);
        store.set(4, 3, 1);
        store.compare('<', 2, 999);
        store.open(0, 3, 0, 1);
        store.read(1);
        return store;
    }

    static void promise38AnotherSumIsNotSound(Checks checks) {
        soundIfPut(checks, withKeptResult(), 3, 0, 3, false);
    }

    static void promise38AnotherLeastIsNotSound(Checks checks) {
        GranaryPartition store = withKeptResult();
        // 2, 1 and 5 become 2, 2 and 4: the sum stays, and both edges move.
        Tamper.put(store, 2, 0, 2);
        Tamper.put(store, 4, 0, 4);
        checks.due("sound", false, store::isSound);
    }

    static void promise38AnotherGreatestAloneIsNotSound(Checks checks) {
        GranaryPartition store = withKeptResult();
        // 1, 2 and 5 become 1, 3 and 4.
        Tamper.put(store, 3, 0, 3);
        Tamper.put(store, 4, 0, 4);
        checks.due("sound", false, store::isSound);
    }

    static void promise38AnotherOrderOfTheSameIsSound(Checks checks) {
        GranaryPartition store = withKeptResult();
        Tamper.put(store, 2, 0, 2);
        Tamper.put(store, 3, 0, 1);
        checks.due("sound", true, store::isSound);
    }

    static void promise38AnotherKeyIsNotSound(Checks checks) {
        GranaryPartition store = withKeptResult();
        // The rows 0 and 1 have the key 1 then, and there is no group of the key 0 any more.
        Tamper.put(store, 0, 3, 1);
        Tamper.put(store, 1, 3, 1);
        checks.due("sound", false, store::isSound);
    }

    static void promise38AnotherKeyAloneIsNotSound(Checks checks) {
        GranaryPartition store = Stores.ofBase(7, 7);
        store.set(0, 1, 9);
        store.mend(0);
        store.compare('=', 3, 0);
        store.open(0, 1, 0, 1);
        store.read(1);
        // The group of the key 9 becomes one of the key 8, with the same figures.
        soundIfPut(checks, store, 0, 1, 8, false);
    }

    static void promise38AnotherNumberOfRowsIsNotSound(Checks checks) {
        GranaryPartition store = Stores.ofBase(0, 0, 0);
        store.set(2, 3, 1);
        store.compare('=', 3, 0);
        store.open(0, -1, 0, 1);
        store.read(1);
        soundIfPut(checks, store, 2, 3, 0, false);
    }

    static void promise38OneResultOfSeveralIsNotSound(Checks checks) {
        for (int column = 0; column < 3; column++) {
            GranaryPartition store = Stores.rising(16);
            store.compare('=', 3, 0);
            for (int measure = 0; measure < 3; measure++) {
                store.open(1, -1, measure, 1);
            }
            store.read(1);
            soundIfPut(checks, store, 3, column, store.valueAt(4, column) + 1, false);
        }
    }

    static void promise38ResultThatIsNotKeptMayDiffer(Checks checks) {
        GranaryPartition store = withKeptResult();
        store.set(0, 0, 1);
        checks.due("kept", false, () -> store.isKept(0));
        soundIfPut(checks, store, 3, 0, 3, true);
    }

    static void promise38ResultOfAnOpenScanMayDiffer(Checks checks) {
        GranaryPartition store = Stores.rising(32);
        store.open(0, -1, 0, 1);
        store.read(1);
        soundIfPut(checks, store, 3, 0, 4, true);
    }
}
