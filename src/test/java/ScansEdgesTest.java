/** The boundary cases of the promises 19 to 27 and of the scans and groups they rest on, each in a test of its own. */
public final class ScansEdgesTest {
    public static void main(String[] args) {
        Cases.run(ScansEdgesTest.class, 19, 27);
    }

    private static GranaryPartition opened(int rows) {
        GranaryPartition store = Stores.rising(rows);
        store.open(0, -1, 0, 1);
        return store;
    }

    // ---- 19: "there is no such filter"

    static void promise19RefusesFilterBelow0(Checks checks) {
        GranaryPartition store = Stores.rising(16);
        checks.element("-1", () -> store.open(-1, -1, 0, 1));
        checks.element("far below", () -> store.open(Integer.MIN_VALUE, -1, 0, 1));
    }

    static void promise19RefusesFilterBehindTheLast(Checks checks) {
        GranaryPartition store = Stores.rising(16);
        checks.element("1", () -> store.open(1, -1, 0, 1));
        checks.element("far above", () -> store.open(Integer.MAX_VALUE, -1, 0, 1));
    }

    static void promise19TakesThe30thFilter(Checks checks) {
        GranaryPartition store = Stores.rising(16);
        for (int i = 1; i < 30; i++) {
            store.join('n', i - 1, 0);
        }
        checks.due("29", 0, () -> store.open(29, -1, 0, 1));
        checks.element("30", () -> store.open(30, -1, 0, 1));
    }

    // ---- 19: "the key column, or -1 for none"; "the measure column"; "the grant, 1 to 6"

    static void promise19TakesNoKey(Checks checks) {
        GranaryPartition store = Stores.rising(16);
        checks.due("-1", 0, () -> store.open(0, -1, 0, 1));
    }

    static void promise19TakesKeys0And3(Checks checks) {
        GranaryPartition store = Stores.rising(16);
        checks.due("0", 0, () -> store.open(0, 0, 0, 1));
        checks.due("3", 1, () -> store.open(0, 3, 0, 1));
        store.read(1);
        checks.due("sixteen of column 0", 16, () -> store.groups(0));
        checks.due("three of column 3", 3, () -> store.groups(1));
    }

    static void promise19RefusesKeyBelowNone(Checks checks) {
        GranaryPartition store = Stores.rising(16);
        checks.argument("-2", () -> store.open(0, -2, 0, 1));
        checks.argument("far below", () -> store.open(0, Integer.MIN_VALUE, 0, 1));
    }

    static void promise19RefusesKey4(Checks checks) {
        GranaryPartition store = Stores.rising(16);
        checks.argument("4", () -> store.open(0, 4, 0, 1));
        checks.argument("far above", () -> store.open(0, Integer.MAX_VALUE, 0, 1));
    }

    static void promise19TakesMeasures0And3(Checks checks) {
        GranaryPartition store = Stores.rising(3);
        checks.due("0", 0, () -> store.open(0, -1, 0, 1));
        checks.due("3", 1, () -> store.open(0, -1, 3, 1));
        store.set(2, 3, 700);
        store.open(0, -1, 3, 1);
        store.read(1);
        checks.due("the sum of column 0", 3, () -> store.total(0, 0, 2));
        checks.due("the sum of column 3", 701, () -> store.total(2, 0, 2));
    }

    static void promise19RefusesMeasureBelow0(Checks checks) {
        GranaryPartition store = Stores.rising(16);
        checks.argument("-1 is no measure", () -> store.open(0, -1, -1, 1));
        checks.argument("far below", () -> store.open(0, -1, Integer.MIN_VALUE, 1));
    }

    static void promise19RefusesMeasure4(Checks checks) {
        GranaryPartition store = Stores.rising(16);
        checks.argument("4", () -> store.open(0, -1, 4, 1));
        checks.argument("far above", () -> store.open(0, -1, Integer.MAX_VALUE, 1));
    }

    static void promise19TakesGrants1And6(Checks checks) {
        GranaryPartition store = Stores.rising(16);
        checks.due("1", 0, () -> store.open(0, -1, 0, 1));
        checks.due("6", 1, () -> store.open(0, -1, 0, 6));
    }

    static void promise19RefusesGrant0(Checks checks) {
        GranaryPartition store = Stores.rising(16);
        checks.argument("0", () -> store.open(0, -1, 0, 0));
        checks.argument("-1", () -> store.open(0, -1, 0, -1));
        checks.argument("far below", () -> store.open(0, -1, 0, Integer.MIN_VALUE));
    }

    static void promise19RefusesGrant7(Checks checks) {
        GranaryPartition store = Stores.rising(16);
        checks.argument("7", () -> store.open(0, -1, 0, 7));
        checks.argument("far above", () -> store.open(0, -1, 0, Integer.MAX_VALUE));
    }

    // ---- 19: "4 scans are open, or there have been 40"

    static void promise19OpensTheFourthScan(Checks checks) {
        GranaryPartition store = Stores.rising(16);
        for (int i = 0; i < 4; i++) {
            int due = i;
            checks.due("number", due, () -> store.open(0, -1, 0, 1));
        }
    }

    static void promise19RefusesTheFifthOpenScan(Checks checks) {
        GranaryPartition store = Stores.rising(16);
        for (int i = 0; i < 4; i++) {
            store.open(0, -1, 0, 1);
        }
        checks.state("a fifth one", () -> store.open(0, -1, 0, 1));
        checks.element("it is not there", () -> store.isDone(4));
    }

    static void promise19OpensAgainWhenOneOfFourIsDone(Checks checks) {
        GranaryPartition store = opened(32);
        store.read(1);
        for (int i = 0; i < 3; i++) {
            store.open(0, -1, 0, 1);
        }
        checks.state("four are open", () -> store.open(0, -1, 0, 1));
        store.read(1);
        checks.due("the first one is done", true, () -> store.isDone(0));
        checks.due("the refused one took no number", 4, () -> store.open(0, -1, 0, 1));
        checks.state("four are open again", () -> store.open(0, -1, 0, 1));
    }

    private static GranaryPartition scanned(int scans) {
        GranaryPartition store = Stores.rising(1);
        for (int i = 0; i < scans; i++) {
            store.open(0, -1, 0, 1);
            store.read(1);
        }
        return store;
    }

    static void promise19OpensThe40thScan(Checks checks) {
        GranaryPartition store = scanned(39);
        checks.due("its number", 39, () -> store.open(0, -1, 0, 1));
        store.read(1);
        checks.due("it is done", true, () -> store.isDone(39));
    }

    static void promise19RefusesThe41stScan(Checks checks) {
        GranaryPartition store = scanned(40);
        checks.state("none is open, yet there have been 40", () -> store.open(0, -1, 0, 1));
        checks.element("it is not there", () -> store.isDone(40));
    }

    static void promise19ScansDoneAtOnceAreNeverOpen(Checks checks) {
        GranaryPartition store = Stores.rising(0);
        for (int i = 0; i < 40; i++) {
            int due = i;
            checks.due("number", due, () -> store.open(0, -1, 0, 1));
        }
        checks.state("but they have been", () -> store.open(0, -1, 0, 1));
    }

    static void promise19RefusedScanTakesNoNumber(Checks checks) {
        GranaryPartition store = Stores.rising(16);
        checks.argument("grant", () -> store.open(0, -1, 0, 0));
        checks.element("filter", () -> store.open(1, -1, 0, 1));
        checks.element("none is there", () -> store.isDone(0));
        checks.due("none is open", 0, () -> store.read(1));
        checks.due("the first one", 0, () -> store.open(0, -1, 0, 1));
    }

    static void promise19FilterComesAheadOfArgument(Checks checks) {
        GranaryPartition store = Stores.rising(16);
        checks.element("key", () -> store.open(1, 4, 0, 1));
        checks.element("measure", () -> store.open(1, 0, 4, 1));
        checks.element("grant", () -> store.open(1, 0, 0, 7));
    }

    static void promise19ArgumentComesAheadOfFourOpenScans(Checks checks) {
        GranaryPartition store = Stores.rising(16);
        for (int i = 0; i < 4; i++) {
            store.open(0, -1, 0, 1);
        }
        checks.element("filter", () -> store.open(1, -1, 0, 1));
        checks.argument("key", () -> store.open(0, 4, 0, 1));
        checks.argument("measure", () -> store.open(0, -1, 4, 1));
        checks.argument("grant", () -> store.open(0, -1, 0, 7));
    }

    static void promise19ArgumentComesAheadOf40Scans(Checks checks) {
        GranaryPartition store = scanned(40);
        checks.element("filter", () -> store.open(1, -1, 0, 1));
        checks.argument("grant", () -> store.open(0, -1, 0, 7));
    }

    // ---- 19: "one without chunks is done at once"

    static void promise19WithoutChunksIsDoneAtOnce(Checks checks) {
        GranaryPartition store = Stores.rising(0);
        checks.due("number", 0, () -> store.open(0, 0, 0, 1));
        checks.due("done", true, () -> store.isDone(0));
        checks.due("groups", 0, () -> store.groups(0));
        checks.due("without a step", 0, () -> store.read(40));
        checks.arithmetic("and without a look", store::skippedShare);
    }

    static void promise19WithoutChunksStaysWithoutLaterRows(Checks checks) {
        GranaryPartition store = Stores.rising(0);
        store.open(0, -1, 0, 1);
        store.load(1, 5, 0, 9);
        checks.due("no step", 0, () -> store.read(1));
        checks.due("groups", 0, () -> store.groups(0));
    }

    static void promise19WithOneChunkIsNotDoneAtOnce(Checks checks) {
        GranaryPartition store = opened(1);
        checks.due("done", false, () -> store.isDone(0));
        checks.state("no result", () -> store.groups(0));
    }

    static void promise19WithRemovedRowsAloneIsNotDoneAtOnce(Checks checks) {
        GranaryPartition store = Stores.rising(1);
        store.remove(0);
        store.mend(0);
        store.open(0, -1, 0, 1);
        checks.due("done", false, () -> store.isDone(0));
        checks.due("one step", 1, () -> store.read(40));
        checks.due("nothing can be true", 1, () -> store.skipped(0));
    }

    // ---- 19: "It is of the moment at which it is opened, and of the chunks that are there then"

    static void promise19WriteJustAheadCounts(Checks checks) {
        GranaryPartition store = Stores.rising(4);
        store.set(0, 0, 500);
        store.clear(1, 0);
        store.remove(2);
        store.load(1, 70, 0, 999);
        store.open(0, -1, 0, 1);
        store.read(1);
        checks.due("rows", 3, () -> store.total(0, 0, 0));
        checks.due("sum", 500 + 3 + 70, () -> store.total(0, 0, 2));
    }

    static void promise19WriteJustBehindDoesNotCount(Checks checks) {
        GranaryPartition store = opened(4);
        store.set(0, 0, 500);
        store.clear(1, 0);
        store.remove(2);
        store.load(1, 70, 0, 999);
        store.read(1);
        checks.due("rows", 4, () -> store.total(0, 0, 0));
        checks.due("sum", 6, () -> store.total(0, 0, 2));
    }

    static void promise19SetAndSetBackDoesNotCount(Checks checks) {
        GranaryPartition store = opened(17);
        store.read(1);
        store.set(16, 0, 500);
        store.open(0, -1, 0, 1);
        store.set(16, 0, 16);
        store.read(2);
        checks.due("of the first moment", 136, () -> store.total(0, 0, 2));
        checks.due("of the second moment", 120 + 500, () -> store.total(1, 0, 2));
    }

    static void promise19KeysAreThoseOfItsMoment(Checks checks) {
        GranaryPartition store = Stores.ofKeys(1, 2);
        store.open(0, 0, 0, 1);
        store.set(0, 0, 2);
        store.read(1);
        checks.due("groups", 2, () -> store.groups(0));
        checks.due("key", 1, () -> store.keyAt(0, 0));
    }

    static void promise19RowsLoadedIntoItsLastChunkAreNotOfIt(Checks checks) {
        GranaryPartition store = opened(15);
        store.load(1, 700, 0, 999);
        store.read(1);
        checks.due("done", true, () -> store.isDone(0));
        checks.due("rows", 15, () -> store.total(0, 0, 0));
    }

    static void promise19ChunksLoadedLaterAreNotOfIt(Checks checks) {
        GranaryPartition store = opened(16);
        store.load(1, 700, 0, 999);
        checks.due("one step", 1, () -> store.read(40));
        checks.due("rows", 16, () -> store.total(0, 0, 0));
    }

    // ---- 20: "the number of steps, 1 to 40"

    static void promise20RefusesNoSteps(Checks checks) {
        GranaryPartition store = opened(16);
        checks.argument("0", () -> store.read(0));
        checks.argument("-1", () -> store.read(-1));
        checks.argument("far below", () -> store.read(Integer.MIN_VALUE));
    }

    static void promise20Refuses41Steps(Checks checks) {
        GranaryPartition store = opened(16);
        checks.argument("41", () -> store.read(41));
        checks.argument("far above", () -> store.read(Integer.MAX_VALUE));
    }

    static void promise20RefusesWrongStepsWithoutScans(Checks checks) {
        GranaryPartition store = Stores.rising(16);
        checks.argument("0", () -> store.read(0));
        checks.argument("41", () -> store.read(41));
    }

    static void promise20RefusedReadingDoesNothing(Checks checks) {
        GranaryPartition store = opened(32);
        checks.argument("41", () -> store.read(41));
        checks.due("position", 0, store::position);
        checks.due("chunks read", 0L, store::chunksRead);
        checks.due("both steps are left", 2, () -> store.read(40));
    }

    static void promise20OneStepLooksAtOneChunk(Checks checks) {
        GranaryPartition store = opened(32);
        checks.due("steps", 1, () -> store.read(1));
        checks.due("not done", false, () -> store.isDone(0));
        checks.due("position", 1, store::position);
    }

    static void promise20FortyStepsEndWithTheLastScan(Checks checks) {
        GranaryPartition store = opened(160);
        checks.due("steps", 10, () -> store.read(40));
        checks.due("done", true, () -> store.isDone(0));
        checks.due("position", 0, store::position);
    }

    static void promise20AsManyStepsAsThereAreChunks(Checks checks) {
        GranaryPartition store = opened(160);
        checks.due("nine", 9, () -> store.read(9));
        checks.due("not done", false, () -> store.isDone(0));
        checks.due("the tenth", 1, () -> store.read(1));
        checks.due("done", true, () -> store.isDone(0));
    }

    static void promise20NoScanIsOpen(Checks checks) {
        GranaryPartition store = Stores.rising(16);
        checks.due("never one", 0, () -> store.read(40));
        store.open(0, -1, 0, 1);
        store.read(1);
        checks.due("none any more", 0, () -> store.read(40));
        checks.due("position", 0, store::position);
    }

    // ---- 20: "if it is of it and was not looked at"

    static void promise20ScanOpenedBehindTheStartGoesRound(Checks checks) {
        GranaryPartition store = opened(48);
        store.read(1);
        store.open(0, -1, 0, 1);
        checks.due("two more for the first one, three for the second", 3, () -> store.read(40));
        checks.due("it ends where it began", 1, store::position);
        checks.due("all rows", 48, () -> store.total(1, 0, 0));
    }

    static void promise20LooksAtNoChunkTwice(Checks checks) {
        GranaryPartition store = opened(32);
        store.read(1);
        store.open(0, -1, 0, 1);
        // Two new chunks make the reading go a longer way round.
        store.load(32, 0, 0, 1);
        store.read(3);
        checks.due("position", 0, store::position);
        checks.due("one step is left for the second one", 1, () -> store.read(40));
        checks.due("its rows", 32, () -> store.total(1, 0, 0));
        checks.due("rows of the first one", 32, () -> store.total(0, 0, 0));
    }

    static void promise20StepsThatNoScanLooksAtCount(Checks checks) {
        GranaryPartition store = opened(17);
        store.read(1);
        store.open(0, -1, 0, 1);
        store.load(31, 0, 0, 1);
        // The second chunk, the third one, which is of no scan, and the first one.
        checks.due("steps", 3, () -> store.read(40));
        checks.due("chunks read", 3L, store::chunksRead);
    }

    static void promise20SeveralScansAreDoneInOneStep(Checks checks) {
        GranaryPartition store = opened(16);
        store.open(0, 3, 0, 1);
        store.open(0, 0, 0, 1);
        checks.due("steps", 1, () -> store.read(40));
        checks.due("0", true, () -> store.isDone(0));
        checks.due("1", true, () -> store.isDone(1));
        checks.due("2", true, () -> store.isDone(2));
    }

    static void promise20WritesWhileOpenDoNotHinder(Checks checks) {
        GranaryPartition store = opened(32);
        store.read(1);
        store.remove(0);
        store.remove(16);
        store.read(1);
        checks.due("rows", 32, () -> store.total(0, 0, 0));
    }

    // ---- 21: takeBack, "no such scan that is open"

    static void promise21RefusesScanBelow0(Checks checks) {
        GranaryPartition store = opened(16);
        checks.element("-1", () -> store.takeBack(-1, 1));
        checks.element("far below", () -> store.takeBack(Integer.MIN_VALUE, 1));
    }

    static void promise21RefusesScanBehindTheLast(Checks checks) {
        GranaryPartition store = opened(16);
        checks.element("1", () -> store.takeBack(1, 1));
        checks.element("far above", () -> store.takeBack(Integer.MAX_VALUE, 1));
    }

    static void promise21RefusesADoneScan(Checks checks) {
        GranaryPartition store = Stores.rising(16);
        store.open(0, -1, 0, 6);
        store.read(1);
        checks.element("done", () -> store.takeBack(0, 1));
    }

    static void promise21RefusesAScanDoneAtOnce(Checks checks) {
        GranaryPartition store = Stores.rising(0);
        store.open(0, -1, 0, 6);
        checks.element("done at once", () -> store.takeBack(0, 1));
    }

    // ---- 21: "the grant, 1 or more, less than the one that it has"

    private static GranaryPartition granted(int grant) {
        GranaryPartition store = Stores.rising(16);
        store.open(0, 0, 0, grant);
        return store;
    }

    static void promise21TakesGrant1(Checks checks) {
        GranaryPartition store = granted(6);
        checks.due("1", 0, () -> store.takeBack(0, 1));
    }

    static void promise21TakesOneLess(Checks checks) {
        GranaryPartition store = granted(6);
        checks.due("5", 0, () -> store.takeBack(0, 5));
        checks.due("4", 0, () -> store.takeBack(0, 4));
    }

    static void promise21RefusesGrant0(Checks checks) {
        GranaryPartition store = granted(6);
        checks.argument("0", () -> store.takeBack(0, 0));
        checks.argument("-1", () -> store.takeBack(0, -1));
        checks.argument("far below", () -> store.takeBack(0, Integer.MIN_VALUE));
    }

    static void promise21RefusesTheGrantThatItHas(Checks checks) {
        GranaryPartition store = granted(3);
        checks.argument("3", () -> store.takeBack(0, 3));
        store.takeBack(0, 2);
        checks.argument("2", () -> store.takeBack(0, 2));
    }

    static void promise21RefusesAGreaterGrant(Checks checks) {
        GranaryPartition store = granted(3);
        checks.argument("4", () -> store.takeBack(0, 4));
        checks.argument("far above", () -> store.takeBack(0, Integer.MAX_VALUE));
        store.takeBack(0, 1);
        checks.argument("what it once had", () -> store.takeBack(0, 2));
    }

    static void promise21RefusesAnyGrantIfItHas1(Checks checks) {
        GranaryPartition store = granted(1);
        checks.argument("1", () -> store.takeBack(0, 1));
        checks.argument("0", () -> store.takeBack(0, 0));
    }

    static void promise21ScanComesAheadOfGrant(Checks checks) {
        GranaryPartition store = granted(3);
        checks.element("none", () -> store.takeBack(1, 0));
        store.read(1);
        checks.element("done", () -> store.takeBack(0, 9));
    }

    static void promise21RefusedTakeBackChangesNothing(Checks checks) {
        GranaryPartition store = Stores.ofKeys(0, 1, 2, 3, 4, 5);
        store.load(20, 0, 0, 1);
        store.open(0, 0, 0, 3);
        store.read(1);
        checks.argument("0", () -> store.takeBack(0, 0));
        checks.argument("4", () -> store.takeBack(0, 4));
        checks.due("no part", 0, () -> store.spilled(0));
        checks.due("its grant is still 3", 1, () -> store.takeBack(0, 2));
    }

    // ---- 21: "parts are spilled in the same way until the groups fit"

    /** A scan with these groups in its memory; its second chunk is still to come, with the key 0 in all its rows. */
    private static GranaryPartition holding(Integer... keys) {
        GranaryPartition store = Stores.ofKeys(keys);
        store.load(16 - keys.length, 0, 0, 1);
        for (int row = keys.length; row < 16; row++) {
            store.remove(row);
        }
        store.load(4, 0, 0, 1);
        store.open(0, 0, 0, 6);
        store.read(1);
        return store;
    }

    static void promise21GroupsThatJustFitStay(Checks checks) {
        GranaryPartition store = holding(0, 1, 2, 3);
        checks.due("four groups, room for four", 0, () -> store.takeBack(0, 2));
        checks.due("spilled", 0, () -> store.spilled(0));
    }

    static void promise21OneGroupTooManySpillsOnePart(Checks checks) {
        GranaryPartition store = holding(0, 1, 2, 3, 7);
        checks.due("five groups, room for four", 1, () -> store.takeBack(0, 2));
        checks.due("spilled", 1, () -> store.spilled(0));
        store.read(1);
        checks.due("not the part of 0", 0, () -> store.aside(0));
    }

    static void promise21SpillsTheLowestOfLikeParts(Checks checks) {
        GranaryPartition store = holding(3, 2, 1, 0, 5, 4);
        // The parts 0 and 1 have two groups each, and four are left without the part 0.
        checks.due("six groups, room for four", 1, () -> store.takeBack(0, 2));
        store.read(1);
        checks.due("the part of 0", 4, () -> store.aside(0));
    }

    static void promise21SpillsSeveralPartsAtOnce(Checks checks) {
        GranaryPartition store = holding(0, 1, 2, 3, 4, 5, 6, 7);
        checks.due("eight groups, room for two: 6, 4, 2", 3, () -> store.takeBack(0, 1));
        checks.due("spilled", 3, () -> store.spilled(0));
    }

    static void promise21SpillsAllButTheLastPart(Checks checks) {
        GranaryPartition store = holding(0, 4, 8, 1, 5, 9, 2, 6, 10, 3, 7, 11);
        checks.due("no part was spilled for twelve groups", 0, () -> store.spilled(0));
        // Three of them go out, and the last one with its three groups does not fit either.
        checks.due("room for two", 4, () -> store.takeBack(0, 1));
    }

    static void promise21NoGroupsSpillNothing(Checks checks) {
        GranaryPartition store = granted(6);
        checks.due("nothing is there yet", 0, () -> store.takeBack(0, 1));
        checks.due("spilled", 0, () -> store.spilled(0));
    }

    static void promise21WithoutAKeyNothingIsSpilled(Checks checks) {
        GranaryPartition store = Stores.rising(32);
        store.open(0, -1, 0, 6);
        store.read(1);
        checks.due("one group fits into two", 0, () -> store.takeBack(0, 1));
    }

    static void promise21ReturnsOnlyWhatIsSpilledByThis(Checks checks) {
        GranaryPartition store = holding(0, 1, 2, 3, 4, 5, 6, 7);
        store.takeBack(0, 3);
        checks.due("by the first one", 1, () -> store.spilled(0));
        checks.due("by the second one", 1, () -> store.takeBack(0, 2));
        checks.due("by both", 2, () -> store.spilled(0));
    }

    static void promise21LowerGrantHoldsForLaterRows(Checks checks) {
        GranaryPartition store = Stores.rising(32);
        store.open(0, 0, 0, 6);
        store.takeBack(0, 1);
        store.read(1);
        // Room for two: 0 goes for 2, 1 goes for 3, 2 goes for 6, and 3 goes for 7, which is of its own part.
        checks.due("parts", 4, () -> store.spilled(0));
        checks.due("4, 5 and 7 to 15", 11, () -> store.aside(0));
    }

    // ---- 22

    static void promise22RefusesScanBelow0(Checks checks) {
        GranaryPartition store = opened(16);
        checks.element("-1", () -> store.isDone(-1));
        checks.element("far below", () -> store.isDone(Integer.MIN_VALUE));
    }

    static void promise22RefusesScanBehindTheLast(Checks checks) {
        GranaryPartition store = opened(16);
        checks.element("1", () -> store.isDone(1));
        checks.element("far above", () -> store.isDone(Integer.MAX_VALUE));
    }

    static void promise22IsNotDoneWithOneChunkLeft(Checks checks) {
        GranaryPartition store = opened(160);
        store.read(9);
        checks.due("nine of ten", false, () -> store.isDone(0));
        store.read(1);
        checks.due("ten of ten", true, () -> store.isDone(0));
    }

    static void promise22StaysDone(Checks checks) {
        GranaryPartition store = opened(16);
        store.read(1);
        store.load(1, 0, 0, 1);
        store.remove(0);
        checks.due("done", true, () -> store.isDone(0));
    }

    // ---- 23: "to the next chunk, or to 0 behind the last one there is now"

    static void promise23OneChunkIsItsOwnNext(Checks checks) {
        GranaryPartition store = opened(16);
        store.read(1);
        checks.due("position", 0, store::position);
    }

    static void promise23BehindTheLastOneIs0(Checks checks) {
        GranaryPartition store = opened(160);
        store.read(9);
        checks.due("at the last one", 9, store::position);
        store.read(1);
        checks.due("behind the last one", 0, store::position);
    }

    static void promise23NewChunkIsTheLastOneNow(Checks checks) {
        GranaryPartition store = opened(16);
        store.load(1, 0, 0, 1);
        store.read(1);
        checks.due("position", 1, store::position);
    }

    static void promise23RowsInTheLastChunkMakeNoNewOne(Checks checks) {
        GranaryPartition store = opened(15);
        store.load(1, 0, 0, 1);
        store.read(1);
        checks.due("position", 0, store::position);
    }

    static void promise23LoadDoesNotMoveTheReading(Checks checks) {
        GranaryPartition store = opened(16);
        store.read(1);
        store.load(40, 0, 0, 1);
        checks.due("position", 0, store::position);
    }

    static void promise23NewScanDoesNotMoveTheReading(Checks checks) {
        GranaryPartition store = opened(32);
        store.read(1);
        store.open(0, -1, 0, 1);
        checks.due("position", 1, store::position);
    }

    static void promise23StaysWhereTheLastScanWasDone(Checks checks) {
        GranaryPartition store = opened(16);
        store.load(32, 0, 0, 1);
        checks.due("one step", 1, () -> store.read(40));
        checks.due("position", 1, store::position);
        store.open(0, -1, 0, 1);
        checks.due("three steps from there", 3, () -> store.read(40));
        checks.due("position again", 1, store::position);
    }

    // ---- 24: "The chunk is read, once, if it is not skipped for some scan that looks at it"

    static void promise24NothingIsReadAtFirst(Checks checks) {
        GranaryPartition store = opened(16);
        checks.due("before the first step", 0L, store::chunksRead);
    }

    static void promise24FourScansReadAChunkOnce(Checks checks) {
        GranaryPartition store = opened(16);
        for (int i = 0; i < 3; i++) {
            store.open(0, 0, 0, 1);
        }
        store.read(1);
        checks.due("read", 1L, store::chunksRead);
    }

    static void promise24SkippedForAllIsNotRead(Checks checks) {
        GranaryPartition store = Stores.rising(16);
        store.compare('<', 0, 0);
        store.open(1, -1, 0, 1);
        store.open(1, 0, 0, 1);
        store.read(1);
        checks.due("read", 0L, store::chunksRead);
    }

    static void promise24SkippedForAllButOneIsRead(Checks checks) {
        GranaryPartition store = Stores.rising(16);
        store.compare('<', 0, 0);
        store.open(0, -1, 0, 1);
        store.open(1, -1, 0, 1);
        store.open(1, 0, 0, 1);
        store.read(1);
        checks.due("the first one reads it", 1L, store::chunksRead);
    }

    static void promise24SkippedForAllButTheLastIsRead(Checks checks) {
        GranaryPartition store = Stores.rising(16);
        store.compare('<', 0, 0);
        store.open(1, -1, 0, 1);
        store.open(1, 0, 0, 1);
        store.open(0, -1, 0, 1);
        store.read(1);
        checks.due("the last one reads it", 1L, store::chunksRead);
    }

    static void promise24ChunkThatNoneLooksAtIsNotRead(Checks checks) {
        GranaryPartition store = opened(32);
        store.read(1);
        store.open(0, -1, 0, 1);
        store.load(16, 0, 0, 1);
        store.read(2);
        checks.due("the third chunk is of no scan", 2L, store::chunksRead);
        checks.due("it was passed", 0, store::position);
    }

    static void promise24DoneScansDoNotRead(Checks checks) {
        GranaryPartition store = Stores.rising(16);
        store.compare('<', 0, 0);
        store.open(0, -1, 0, 1);
        store.read(1);
        store.open(1, -1, 0, 1);
        store.read(1);
        checks.due("the done one does not look any more", 1L, store::chunksRead);
    }

    static void promise24ReadWithoutATakenRowIsRead(Checks checks) {
        GranaryPartition store = Stores.ofValues(0, 2);
        store.compare('=', 0, 1);
        store.open(0, -1, 0, 1);
        store.read(1);
        checks.due("read", 1L, store::chunksRead);
        checks.due("taken", 0, () -> store.groups(0));
    }

    // ---- 25: "if its filter cannot be true by the bounds, the chunk is skipped for it"

    static void promise25RefusesScanBelow0(Checks checks) {
        GranaryPartition store = opened(16);
        checks.element("-1", () -> store.skipped(-1));
        checks.element("far below", () -> store.skipped(Integer.MIN_VALUE));
    }

    static void promise25RefusesScanBehindTheLast(Checks checks) {
        GranaryPartition store = opened(16);
        checks.element("1", () -> store.skipped(1));
        checks.element("far above", () -> store.skipped(Integer.MAX_VALUE));
    }

    private static void skips(Checks checks, char kind, int number, int due) {
        GranaryPartition store = Stores.rising(48);
        store.compare(kind, 0, number);
        store.open(1, -1, 0, 1);
        store.read(3);
        checks.due(kind + " " + number, due, () -> store.skipped(0));
    }

    static void promise25NumberAtAChunksLeast(Checks checks) {
        skips(checks, '<', 16, 2);
        skips(checks, '<', 17, 1);
    }

    static void promise25NumberAtAChunksGreatest(Checks checks) {
        skips(checks, '>', 31, 2);
        skips(checks, '>', 30, 1);
    }

    static void promise25NumberInOneChunk(Checks checks) {
        skips(checks, '=', 15, 2);
        skips(checks, '=', 16, 2);
    }

    static void promise25NumberInNoChunk(Checks checks) {
        skips(checks, '=', 48, 3);
        skips(checks, '=', -1, 3);
    }

    static void promise25NoChunkIsSkippedIfAllCanBeTrue(Checks checks) {
        skips(checks, '>', -1, 0);
    }

    static void promise25UnknownAloneIsSkipped(Checks checks) {
        GranaryPartition store = Stores.ofBase(null, null);
        store.compare('>', 0, -999);
        store.open(0, -1, 1, 1);
        store.read(1);
        checks.due("skipped", 1, () -> store.skipped(0));
    }

    static void promise25CountsNothingBeforeTheLook(Checks checks) {
        GranaryPartition store = Stores.rising(32);
        store.compare('<', 0, 0);
        store.open(1, -1, 0, 1);
        checks.due("not yet", 0, () -> store.skipped(0));
        store.read(1);
        checks.due("one", 1, () -> store.skipped(0));
        store.read(1);
        checks.due("two", 2, () -> store.skipped(0));
    }

    static void promise25ChunksThatAreNotOfItAreNotSkipped(Checks checks) {
        GranaryPartition store = Stores.rising(32);
        store.compare('<', 0, 0);
        store.open(1, -1, 0, 1);
        store.read(1);
        store.load(32, 0, 0, 1);
        store.read(40);
        checks.due("skipped", 2, () -> store.skipped(0));
    }

    static void promise25SkipsForEachScanByItself(Checks checks) {
        GranaryPartition store = Stores.rising(32);
        store.compare('<', 0, 16);
        store.open(0, -1, 0, 1);
        store.open(1, -1, 0, 1);
        store.read(2);
        checks.due("the first one", 0, () -> store.skipped(0));
        checks.due("the second one", 1, () -> store.skipped(1));
    }

    static void promise25BoundsAreThoseOfTheLook(Checks checks) {
        GranaryPartition store = Stores.rising(16);
        store.compare('=', 0, 500);
        store.open(1, -1, 0, 1);
        store.set(0, 0, 500);
        store.read(1);
        checks.due("it can be true now", 0, () -> store.skipped(0));
        checks.due("but no row of its moment is", 0, () -> store.groups(0));
    }

    // ---- 26: "A scan has room for twice as many groups as its grant"

    static void promise26RefusesScanBelow0(Checks checks) {
        GranaryPartition store = opened(16);
        checks.element("-1", () -> store.spilled(-1));
        checks.element("far below", () -> store.spilled(Integer.MIN_VALUE));
    }

    static void promise26RefusesScanBehindTheLast(Checks checks) {
        GranaryPartition store = opened(16);
        checks.element("1", () -> store.spilled(1));
        checks.element("far above", () -> store.spilled(Integer.MAX_VALUE));
    }

    private static void spills(Checks checks, int grant, int parts, int aside, Integer... keys) {
        GranaryPartition store = Stores.ofKeys(keys);
        store.open(0, 0, 0, grant);
        store.read(40);
        checks.due("spilled", parts, () -> store.spilled(0));
        checks.due("aside", aside, () -> store.aside(0));
    }

    static void promise26TwoGroupsFitIntoGrant1(Checks checks) {
        spills(checks, 1, 0, 0, 0, 1);
    }

    static void promise26ThreeGroupsDoNotFitIntoGrant1(Checks checks) {
        spills(checks, 1, 1, 0, 0, 1, 2);
    }

    static void promise26TwelveGroupsFitIntoGrant6(Checks checks) {
        spills(checks, 6, 0, 0, 0, 1, 2, 3, 4, 5, 6, 7, 8, 9, 10, 11);
    }

    static void promise26ThirteenGroupsDoNotFitIntoGrant6(Checks checks) {
        spills(checks, 6, 1, 1, 0, 1, 2, 3, 4, 5, 6, 7, 8, 9, 10, 11, 12);
    }

    static void promise26RowsOfAGroupThatIsThereNeedNoRoom(Checks checks) {
        spills(checks, 1, 0, 0, 0, 1, 1, 0, 0, 1);
    }

    static void promise26PartWithTheMostGroupsGoes(Checks checks) {
        // The parts have one, two and one; the part 1 goes for 3, and its rows are set aside.
        spills(checks, 2, 1, 2, 0, 1, 5, 2, 3, 1, 5, 0, 2);
    }

    static void promise26LowestOfLikePartsGoes(Checks checks) {
        spills(checks, 1, 1, 1, 3, 2, 1, 2, 3);
    }

    static void promise26ItsOwnPartCanGo(Checks checks) {
        // The key 8 has no group then, and is set aside itself.
        spills(checks, 1, 1, 1, 0, 4, 8);
    }

    static void promise26SpilledPartNeedsNoRoom(Checks checks) {
        spills(checks, 1, 1, 3, 0, 4, 8, 12, 16, 1, 2);
    }

    static void promise26SpilledPartIsNotSpilledAgain(Checks checks) {
        // The part 0 goes, and what is left is 1 and 2; the part 1 goes for 3.
        spills(checks, 1, 2, 0, 0, 1, 2, 3);
    }

    static void promise26AllFourPartsCanGo(Checks checks) {
        spills(checks, 1, 4, 6, 0, 4, 8, 1, 5, 9, 2, 6, 10, 3, 7, 11, 0, 1);
    }

    static void promise26GroupsThatGoOutLeaveRoom(Checks checks) {
        // Both groups of the part 0 go for 1, and 5 has room as well.
        spills(checks, 1, 1, 0, 0, 4, 1, 5);
    }

    // ---- 26: "by the key modulo 4, from 0 on, a missing one in the part 0"

    static void promise26Minus1IsInThePart3(Checks checks) {
        // 3 and -1 are two groups of one part, which is the fullest one then.
        spills(checks, 2, 1, 2, 3, -1, 0, 1, 2, 3, -1);
    }

    static void promise26Minus4IsInThePart0(Checks checks) {
        spills(checks, 2, 1, 2, 0, -4, 1, 2, 3, 0, -4, 1);
    }

    static void promise26Minus999IsInThePart1(Checks checks) {
        spills(checks, 2, 1, 2, 1, -999, 0, 2, 3, 1, -999, 0);
    }

    static void promise26MissingIsInThePart0(Checks checks) {
        spills(checks, 2, 1, 3, null, 4, 1, 2, 3, 4, null, null);
    }

    static void promise26MissingIsNotTheKey0(Checks checks) {
        spills(checks, 1, 1, 0, null, 0, 1);
    }

    static void promise26WithoutAKeyAllRowsAreOneGroup(Checks checks) {
        GranaryPartition store = opened(160);
        store.read(40);
        checks.due("spilled", 0, () -> store.spilled(0));
        checks.due("aside", 0, () -> store.aside(0));
    }

    static void promise26RowsThatAreNotChosenNeedNoRoom(Checks checks) {
        GranaryPartition store = Stores.rising(16);
        store.compare('<', 0, 2);
        store.open(1, 0, 0, 1);
        store.read(1);
        checks.due("spilled", 0, () -> store.spilled(0));
    }

    static void promise26MemoryGoesOnFromChunkToChunk(Checks checks) {
        GranaryPartition store = Stores.rising(17);
        store.compare('>', 0, 14);
        store.compare('=', 0, 0);
        store.join('o', 1, 2);
        store.open(3, 0, 0, 1);
        store.read(1);
        checks.due("0 and 15 fit", 0, () -> store.spilled(0));
        store.read(1);
        checks.due("16 does not", 1, () -> store.spilled(0));
        checks.due("and is in the part 0, too", 1, () -> store.aside(0));
    }

    static void promise26NothingIsSpilledBeforeTheFirstStep(Checks checks) {
        GranaryPartition store = Stores.rising(16);
        store.open(0, 0, 0, 1);
        checks.due("spilled", 0, () -> store.spilled(0));
        checks.due("aside", 0, () -> store.aside(0));
    }

    static void promise26EachScanHasAMemoryOfItsOwn(Checks checks) {
        GranaryPartition store = Stores.rising(12);
        store.open(0, 0, 0, 1);
        store.open(0, 0, 0, 6);
        store.read(1);
        checks.due("the first one", 4, () -> store.spilled(0));
        checks.due("the second one", 0, () -> store.spilled(1));
    }

    static void promise26StaysWhenDone(Checks checks) {
        GranaryPartition store = Stores.rising(16);
        store.open(0, 0, 0, 1);
        store.read(1);
        checks.due("done", true, () -> store.isDone(0));
        checks.due("spilled", 4, () -> store.spilled(0));
        checks.due("all is put together", 16, () -> store.groups(0));
    }

    // ---- 27: "A row whose part is spilled is set aside"

    static void promise27RefusesScanBelow0(Checks checks) {
        GranaryPartition store = opened(16);
        checks.element("-1", () -> store.aside(-1));
        checks.element("far below", () -> store.aside(Integer.MIN_VALUE));
    }

    static void promise27RefusesScanBehindTheLast(Checks checks) {
        GranaryPartition store = opened(16);
        checks.element("1", () -> store.aside(1));
        checks.element("far above", () -> store.aside(Integer.MAX_VALUE));
    }

    static void promise27RowsAheadOfTheSpillAreNotSetAside(Checks checks) {
        // The rows of 0 and 4 went out as groups.
        spills(checks, 1, 1, 0, 0, 0, 4, 4, 1);
    }

    static void promise27TheRowThatSpillsAnotherPartIsNot(Checks checks) {
        spills(checks, 1, 1, 0, 0, 1, 2);
    }

    static void promise27TheRowThatSpillsItsOwnPartIs(Checks checks) {
        spills(checks, 1, 1, 1, 1, 5, 9);
    }

    static void promise27RowsOfAGroupThatWentOutAre(Checks checks) {
        spills(checks, 1, 1, 2, 0, 1, 2, 0, 0, 1, 2);
    }

    static void promise27RowsOfOtherPartsAreNot(Checks checks) {
        spills(checks, 1, 1, 0, 0, 1, 2, 1, 2, 1);
    }

    static void promise27RowsThatAreNotChosenAreNot(Checks checks) {
        GranaryPartition store = Stores.ofKeys(0, 1, 2, 0, 0);
        store.set(3, 3, 1);
        store.open(0, 0, 0, 1);
        store.read(1);
        checks.due("one of two", 1, () -> store.aside(0));
    }

    static void promise27RemovedRowsAreNot(Checks checks) {
        GranaryPartition store = Stores.ofKeys(0, 1, 2, 0, 0);
        store.remove(4);
        store.open(0, 0, 0, 1);
        store.read(1);
        checks.due("one of two", 1, () -> store.aside(0));
    }

    static void promise27TakingBackSetsNoRowAside(Checks checks) {
        GranaryPartition store = holding(0, 1, 2, 3, 4, 5, 6, 7);
        store.takeBack(0, 1);
        checks.due("groups went out", 0, () -> store.aside(0));
        store.read(1);
        checks.due("the four rows of 0 are set aside", 4, () -> store.aside(0));
    }

    static void promise27RowsSetAsideAreInTheResult(Checks checks) {
        GranaryPartition store = Stores.ofKeys(0, 4, 8, 0, 8);
        store.open(0, 0, 0, 1);
        store.read(1);
        checks.due("aside", 3, () -> store.aside(0));
        checks.due("groups", 3, () -> store.groups(0));
        checks.due("rows of 0", 2, () -> store.total(0, 0, 0));
        checks.due("rows of 8", 2, () -> store.total(0, 2, 0));
        checks.due("sum of 8", 16, () -> store.total(0, 2, 2));
    }
}
