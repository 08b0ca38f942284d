/** The boundary cases of the promises 1 to 7 and of the rows they rest on, each in a test of its own. */
public final class RowsEdgesTest {
    public static void main(String[] args) {
        Cases.run(RowsEdgesTest.class, 1, 7);
    }

    // ---- 1: "a store without rows, filters and scans"

    static void promise01HasNoRow(Checks checks) {
        GranaryPartition store = new GranaryPartition();
        checks.index("set", () -> store.set(0, 0, 0));
        checks.index("clear", () -> store.clear(0, 0));
        checks.index("remove", () -> store.remove(0));
        checks.index("valueAt", () -> store.valueAt(0, 0));
    }

    static void promise01HasNoChunk(Checks checks) {
        GranaryPartition store = new GranaryPartition();
        checks.due("chunks", 0, store::chunks);
        checks.index("encoding", () -> store.encoding(0, 0));
        checks.index("bits", () -> store.bits(0, 0));
        checks.index("changes", () -> store.changes(0));
        checks.index("least", () -> store.least(0, 0));
        checks.index("greatest", () -> store.greatest(0, 0));
        checks.index("mayMiss", () -> store.mayMiss(0, 0));
        checks.index("mend", () -> store.mend(0));
    }

    static void promise01HasNoFilter(Checks checks) {
        GranaryPartition store = new GranaryPartition();
        checks.element("join", () -> store.join('n', 0, 0));
        checks.element("canBe", () -> store.canBe(0, 0));
        checks.element("open", () -> store.open(0, -1, 0, 1));
        checks.element("sum", () -> store.sum(0, 0));
        checks.element("bound", () -> store.bound(0, 0, true));
        checks.due("the first one", 0, () -> store.compare('=', 0, 0));
    }

    static void promise01HasNoScan(Checks checks) {
        GranaryPartition store = new GranaryPartition();
        checks.element("takeBack", () -> store.takeBack(0, 1));
        checks.element("isDone", () -> store.isDone(0));
        checks.element("skipped", () -> store.skipped(0));
        checks.element("spilled", () -> store.spilled(0));
        checks.element("aside", () -> store.aside(0));
        checks.element("groups", () -> store.groups(0));
        checks.element("keyAt", () -> store.keyAt(0, 0));
        checks.element("total", () -> store.total(0, 0, 0));
        checks.element("edge", () -> store.edge(0, 0, true));
        checks.element("isKept", () -> store.isKept(0));
        checks.element("keptFor", () -> store.keptFor(0, -1, 0));
    }

    static void promise01BeginsAt0(Checks checks) {
        GranaryPartition store = new GranaryPartition();
        checks.due("moment", 0, store::moment);
        checks.due("position", 0, store::position);
        checks.due("chunksRead", 0L, store::chunksRead);
    }

    static void promise01ReadsNothing(Checks checks) {
        GranaryPartition store = new GranaryPartition();
        checks.due("one step", 0, () -> store.read(1));
        checks.due("forty steps", 0, () -> store.read(40));
        checks.due("position", 0, store::position);
    }

    static void promise01HasNoFigures(Checks checks) {
        GranaryPartition store = new GranaryPartition();
        checks.arithmetic("meanBits", store::meanBits);
        checks.arithmetic("skippedShare", store::skippedShare);
        checks.due("isSound", true, store::isSound);
    }

    static void promise01SharesNothingWithAnother(Checks checks) {
        GranaryPartition used = Stores.rising(40);
        used.open(0, -1, 0, 1);
        used.read(1);
        GranaryPartition store = new GranaryPartition();
        checks.due("chunks", 0, store::chunks);
        checks.due("moment", 0, store::moment);
        checks.due("position", 0, store::position);
        checks.element("filter", () -> store.sum(0, 0));
        checks.element("scan", () -> store.isDone(0));
        checks.due("the other one keeps its own", 3, used::chunks);
    }

    /** "An object is used for at most 512 calls." */
    static void promise01AnswersTo512thCall(Checks checks) {
        GranaryPartition store = new GranaryPartition();
        store.load(40, 0, 1, 999);
        for (int call = 2; call <= 510; call++) {
            store.set(call % 40, 0, call);
        }
        checks.due("the 511th call", 510, store::moment);
        checks.due("the 512th call", 510, () -> store.valueAt(510 % 40, 0));
    }

    // ---- 2: "their number, 1 to 40"

    static void promise02LoadsOneRow(Checks checks) {
        GranaryPartition store = new GranaryPartition();
        checks.due("rows", 1, () -> store.load(1, 0, 0, 1));
        checks.due("row 0", 0, () -> store.valueAt(0, 0));
        checks.index("row 1", () -> store.valueAt(1, 0));
    }

    static void promise02LoadsFortyRows(Checks checks) {
        GranaryPartition store = new GranaryPartition();
        checks.due("rows", 40, () -> store.load(40, 0, 1, 999));
        checks.due("row 39", 39, () -> store.valueAt(39, 0));
        checks.index("row 40", () -> store.valueAt(40, 0));
    }

    private static void refusesLoad(Checks checks, int many, int first, int step, int turn) {
        GranaryPartition store = new GranaryPartition();
        checks.argument("refused", () -> store.load(many, first, step, turn));
        checks.due("nothing is written", 0, store::moment);
        checks.due("nothing is there", 0, store::chunks);
    }

    static void promise02RefusesNoRows(Checks checks) {
        refusesLoad(checks, 0, 0, 0, 1);
    }

    static void promise02RefusesFewerThanNoRows(Checks checks) {
        refusesLoad(checks, -1, 0, 0, 1);
        refusesLoad(checks, Integer.MIN_VALUE, 0, 0, 1);
    }

    static void promise02Refuses41Rows(Checks checks) {
        refusesLoad(checks, 41, 0, 0, 1);
        refusesLoad(checks, Integer.MAX_VALUE, 0, 0, 1);
    }

    // ---- 2: "the first number, -999 to 999"

    static void promise02TakesLeastFirst(Checks checks) {
        GranaryPartition store = Stores.loaded(1, -999, 0, 998);
        checks.due("-999 modulo 998", 997, () -> store.valueAt(0, 0));
    }

    static void promise02TakesGreatestFirst(Checks checks) {
        GranaryPartition store = Stores.loaded(1, 999, 0, 998);
        checks.due("999 modulo 998", 1, () -> store.valueAt(0, 0));
    }

    static void promise02RefusesFirstTooSmall(Checks checks) {
        refusesLoad(checks, 1, -1000, 0, 1);
        refusesLoad(checks, 1, Integer.MIN_VALUE, 0, 1);
    }

    static void promise02RefusesFirstTooLarge(Checks checks) {
        refusesLoad(checks, 1, 1000, 0, 1);
        refusesLoad(checks, 1, Integer.MAX_VALUE, 0, 1);
    }

    // ---- 2: "the step, -99 to 99"

    static void promise02TakesLeastStep(Checks checks) {
        GranaryPartition store = Stores.loaded(2, 100, -99, 999);
        checks.due("row 1", 1, () -> store.valueAt(1, 0));
    }

    static void promise02TakesGreatestStep(Checks checks) {
        GranaryPartition store = Stores.loaded(2, 100, 99, 999);
        checks.due("row 1", 199, () -> store.valueAt(1, 0));
    }

    static void promise02TakesStep0(Checks checks) {
        GranaryPartition store = Stores.loaded(40, 7, 0, 999);
        checks.due("row 0", 7, () -> store.valueAt(0, 0));
        checks.due("row 39", 7, () -> store.valueAt(39, 0));
    }

    static void promise02RefusesStepTooSmall(Checks checks) {
        refusesLoad(checks, 1, 0, -100, 1);
        refusesLoad(checks, 1, 0, Integer.MIN_VALUE, 1);
    }

    static void promise02RefusesStepTooLarge(Checks checks) {
        refusesLoad(checks, 1, 0, 100, 1);
        refusesLoad(checks, 1, 0, Integer.MAX_VALUE, 1);
    }

    // ---- 2: "the turn, 1 to 999"

    static void promise02TakesTurn1(Checks checks) {
        GranaryPartition store = Stores.loaded(3, 5, 7, 1);
        checks.due("row 0", 0, () -> store.valueAt(0, 0));
        checks.due("row 2", 0, () -> store.valueAt(2, 0));
    }

    static void promise02TakesTurn999(Checks checks) {
        GranaryPartition store = Stores.loaded(3, 997, 1, 999);
        checks.due("row 1", 998, () -> store.valueAt(1, 0));
        checks.due("row 2", 0, () -> store.valueAt(2, 0));
    }

    static void promise02RefusesTurn0(Checks checks) {
        refusesLoad(checks, 1, 0, 0, 0);
    }

    static void promise02RefusesTurnBelow0(Checks checks) {
        refusesLoad(checks, 1, 0, 0, -1);
        refusesLoad(checks, 1, 0, 0, Integer.MIN_VALUE);
    }

    static void promise02RefusesTurn1000(Checks checks) {
        refusesLoad(checks, 1, 0, 0, 1000);
        refusesLoad(checks, 1, 0, 0, Integer.MAX_VALUE);
    }

    // ---- 2: "the first number plus i times the step, modulo the turn, from 0 on"

    private static void loadsAs(Checks checks, int first, int step, int turn, int... due) {
        GranaryPartition store = Stores.loaded(due.length, first, step, turn);
        for (int row = 0; row < due.length; row++) {
            int asked = row;
            checks.due("row " + row, due[row], () -> store.valueAt(asked, 0));
        }
    }

    static void promise02BelowTheTurnStays(Checks checks) {
        loadsAs(checks, 4, 0, 5, 4);
    }

    static void promise02TheTurnBecomes0(Checks checks) {
        loadsAs(checks, 5, 0, 5, 0);
    }

    static void promise02Minus1BecomesTheLast(Checks checks) {
        loadsAs(checks, -1, 0, 5, 4);
    }

    static void promise02MinusTheTurnBecomes0(Checks checks) {
        loadsAs(checks, -5, 0, 5, 0);
    }

    static void promise02WrapsUpwards(Checks checks) {
        loadsAs(checks, 8, 1, 10, 8, 9, 0, 1);
    }

    static void promise02WrapsDownwards(Checks checks) {
        loadsAs(checks, 1, -1, 10, 1, 0, 9, 8);
    }

    static void promise02StepBeyondTheTurnWraps(Checks checks) {
        loadsAs(checks, 0, 99, 10, 0, 9, 8, 7);
        loadsAs(checks, 0, -99, 10, 0, 1, 2, 3);
    }

    static void promise02FarthestUpwards(Checks checks) {
        GranaryPartition store = Stores.loaded(40, 999, 99, 999);
        // 999 + 39 * 99 is 4860, and 4 * 999 is 3996.
        checks.due("row 39", 864, () -> store.valueAt(39, 0));
    }

    static void promise02FarthestDownwards(Checks checks) {
        GranaryPartition store = Stores.loaded(40, -999, -99, 999);
        // -4860 and 5 * 999, which is 4995.
        checks.due("row 39", 135, () -> store.valueAt(39, 0));
    }

    // ---- 2: "the square of this, modulo 37", "i divided by 4, rounded down", "its column 0, modulo 3"

    private static void columnOf(Checks checks, int zeroth, int column, int due) {
        GranaryPartition store = Stores.loaded(1, zeroth, 0, 999);
        checks.due("column " + column + " of " + zeroth, due, () -> store.valueAt(0, column));
    }

    static void promise02SquareOf6IsTheGreatest(Checks checks) {
        columnOf(checks, 6, 1, 36);
    }

    static void promise02SquareOf7Wraps(Checks checks) {
        columnOf(checks, 7, 1, 12);
    }

    static void promise02SquareOf37Is0(Checks checks) {
        columnOf(checks, 37, 1, 0);
    }

    static void promise02SquareOfTheGreatest(Checks checks) {
        // 998 is 27 * 37 - 1.
        columnOf(checks, 998, 1, 1);
    }

    static void promise02SquareIsOfWhatWrapped(Checks checks) {
        GranaryPartition store = Stores.loaded(1, -1, 0, 8);
        checks.due("of 7, not of -1", 12, () -> store.valueAt(0, 1));
    }

    static void promise02QuarterOfFirstFourIs0(Checks checks) {
        GranaryPartition store = Stores.loaded(40, 0, 1, 999);
        checks.due("row 0", 0, () -> store.valueAt(0, 2));
        checks.due("row 3", 0, () -> store.valueAt(3, 2));
    }

    static void promise02QuarterOfTheFifthIs1(Checks checks) {
        GranaryPartition store = Stores.loaded(40, 0, 1, 999);
        checks.due("row 4", 1, () -> store.valueAt(4, 2));
    }

    static void promise02QuarterOfTheLastIs9(Checks checks) {
        GranaryPartition store = Stores.loaded(40, 0, 1, 999);
        checks.due("row 39", 9, () -> store.valueAt(39, 2));
    }

    static void promise02QuarterBeginsAnewWithEachLoad(Checks checks) {
        GranaryPartition store = Stores.loaded(5, 0, 1, 999);
        store.load(5, 0, 1, 999);
        checks.due("row 4", 1, () -> store.valueAt(4, 2));
        checks.due("row 5", 0, () -> store.valueAt(5, 2));
        checks.due("row 9", 1, () -> store.valueAt(9, 2));
    }

    static void promise02ThirdOf2Stays(Checks checks) {
        columnOf(checks, 2, 3, 2);
    }

    static void promise02ThirdOf3Is0(Checks checks) {
        columnOf(checks, 3, 3, 0);
    }

    static void promise02ThirdIsOfWhatWrapped(Checks checks) {
        GranaryPartition store = Stores.loaded(1, -1, 0, 6);
        checks.due("of 5, not of -1", 2, () -> store.valueAt(0, 3));
    }

    // ---- 2: "behind those that are there", "more than 160 rows"

    static void promise02GoesOnBehindAChunksEnd(Checks checks) {
        GranaryPartition store = Stores.loaded(15, 0, 1, 999);
        checks.due("rows", 17, () -> store.load(2, 500, 1, 999));
        checks.due("row 14", 14, () -> store.valueAt(14, 0));
        checks.due("row 15", 500, () -> store.valueAt(15, 0));
        checks.due("row 16", 501, () -> store.valueAt(16, 0));
        checks.due("the last one of the first chunk", 500, () -> store.greatest(0, 0));
        checks.due("the first one of the second chunk", 501, () -> store.least(1, 0));
    }

    static void promise02GoesOnBehindRemovedRows(Checks checks) {
        GranaryPartition store = Stores.loaded(2, 0, 1, 999);
        store.remove(1);
        checks.due("rows", 3, () -> store.load(1, 7, 0, 999));
        checks.element("row 1", () -> store.valueAt(1, 0));
        checks.due("row 2", 7, () -> store.valueAt(2, 0));
    }

    static void promise02Fills160Rows(Checks checks) {
        GranaryPartition store = Stores.rising(120);
        checks.due("rows", 160, () -> store.load(40, 120, 1, 999));
        checks.due("the last one", 159, () -> store.valueAt(159, 0));
        checks.index("no more", () -> store.valueAt(160, 0));
    }

    static void promise02RefusesOneRowMoreThan160(Checks checks) {
        GranaryPartition store = Stores.rising(160);
        checks.state("161", () -> store.load(1, 0, 0, 1));
        checks.index("is not there", () -> store.valueAt(160, 0));
    }

    static void promise02RefusesALoadThatReaches161(Checks checks) {
        GranaryPartition store = Stores.rising(121);
        int before = store.moment();
        checks.state("161", () -> store.load(40, 0, 0, 1));
        checks.due("no write", before, store::moment);
        checks.index("not even a part of it", () -> store.valueAt(121, 0));
        checks.due("one row fewer goes", 160, () -> store.load(39, 0, 0, 1));
    }

    static void promise02RemovedRowsCountAmong160(Checks checks) {
        GranaryPartition store = Stores.rising(160);
        store.remove(0);
        store.remove(159);
        checks.state("161", () -> store.load(1, 0, 0, 1));
    }

    static void promise02ArgumentComesAheadOfAFullStore(Checks checks) {
        GranaryPartition store = Stores.rising(160);
        checks.argument("many", () -> store.load(0, 0, 0, 1));
        checks.argument("turn", () -> store.load(1, 0, 0, 0));
    }

    static void promise02LoadsWhileAScanIsOpen(Checks checks) {
        GranaryPartition store = Stores.rising(1);
        store.open(0, -1, 0, 1);
        checks.due("rows", 2, () -> store.load(1, 0, 0, 1));
    }

    // ---- 3: set

    static void promise03SetsTheFirstRow(Checks checks) {
        GranaryPartition store = Stores.rising(17);
        checks.due("set", false, () -> store.set(0, 0, 77));
        checks.due("row 0", 77, () -> store.valueAt(0, 0));
        checks.due("row 1", 1, () -> store.valueAt(1, 0));
    }

    static void promise03SetsTheLastRow(Checks checks) {
        GranaryPartition store = Stores.rising(160);
        checks.due("set", false, () -> store.set(159, 3, 77));
        checks.due("row 159", 77, () -> store.valueAt(159, 3));
        checks.due("another column", 159, () -> store.valueAt(159, 0));
    }

    static void promise03RefusesRowBelow0(Checks checks) {
        GranaryPartition store = Stores.rising(2);
        checks.index("-1", () -> store.set(-1, 0, 0));
        checks.index("far below", () -> store.set(Integer.MIN_VALUE, 0, 0));
    }

    static void promise03RefusesRowBehindTheLast(Checks checks) {
        GranaryPartition store = Stores.rising(2);
        checks.index("2", () -> store.set(2, 0, 0));
        checks.index("far above", () -> store.set(Integer.MAX_VALUE, 0, 0));
        store.load(1, 0, 0, 1);
        checks.due("now it is there", false, () -> store.set(2, 0, 0));
    }

    static void promise03RefusesRow160(Checks checks) {
        GranaryPartition store = Stores.rising(160);
        checks.index("160", () -> store.set(160, 0, 0));
    }

    static void promise03SetsEachColumn(Checks checks) {
        GranaryPartition store = Stores.rising(1);
        for (int column = 0; column < 4; column++) {
            int asked = column;
            checks.due("set", false, () -> store.set(0, asked, 100 + asked));
        }
        for (int column = 0; column < 4; column++) {
            int asked = column;
            checks.due("column " + column, 100 + column, () -> store.valueAt(0, asked));
        }
    }

    static void promise03RefusesColumnBelow0(Checks checks) {
        GranaryPartition store = Stores.rising(2);
        checks.index("-1", () -> store.set(1, -1, 0));
        checks.index("far below", () -> store.set(1, Integer.MIN_VALUE, 0));
        checks.due("the row ahead stays", 0, () -> store.valueAt(0, 3));
    }

    static void promise03RefusesColumn4(Checks checks) {
        GranaryPartition store = Stores.rising(2);
        checks.index("4", () -> store.set(0, 4, 500));
        checks.index("far above", () -> store.set(0, Integer.MAX_VALUE, 500));
        checks.due("the row behind stays", 1, () -> store.valueAt(1, 0));
    }

    static void promise03TakesLeastValue(Checks checks) {
        GranaryPartition store = Stores.rising(1);
        checks.due("set", false, () -> store.set(0, 0, -999));
        checks.due("it is a value", -999, () -> store.valueAt(0, 0));
        checks.due("and not a missing one", false, () -> store.set(0, 0, 0));
    }

    static void promise03TakesGreatestValue(Checks checks) {
        GranaryPartition store = Stores.rising(1);
        checks.due("set", false, () -> store.set(0, 0, 999));
        checks.due("it is a value", 999, () -> store.valueAt(0, 0));
        checks.due("and not a missing one", false, () -> store.set(0, 0, 0));
    }

    static void promise03RefusesValueTooSmall(Checks checks) {
        GranaryPartition store = Stores.rising(1);
        checks.argument("-1000", () -> store.set(0, 0, -1000));
        checks.argument("far below", () -> store.set(0, 0, Integer.MIN_VALUE));
        checks.due("stays", 0, () -> store.valueAt(0, 0));
    }

    static void promise03RefusesValueTooLarge(Checks checks) {
        GranaryPartition store = Stores.rising(1);
        checks.argument("1000", () -> store.set(0, 0, 1000));
        checks.argument("far above", () -> store.set(0, 0, Integer.MAX_VALUE));
        checks.due("stays", 0, () -> store.valueAt(0, 0));
    }

    static void promise03TellsWhetherItWasMissing(Checks checks) {
        GranaryPartition store = Stores.rising(1);
        store.clear(0, 2);
        checks.due("it was", true, () -> store.set(0, 2, 5));
        checks.due("it is not any more", false, () -> store.set(0, 2, 5));
        checks.due("another column was not", false, () -> store.set(0, 1, 5));
    }

    static void promise03TheSameValueIsAWrite(Checks checks) {
        GranaryPartition store = Stores.loaded(1, 5, 0, 9);
        store.set(0, 0, 5);
        checks.due("moment", 2, store::moment);
        checks.due("changes", 1, () -> store.changes(0));
    }

    static void promise03RefusesARemovedRow(Checks checks) {
        GranaryPartition store = Stores.rising(2);
        store.remove(1);
        checks.state("removed", () -> store.set(1, 0, 5));
        checks.due("the one ahead is not", false, () -> store.set(0, 0, 5));
    }

    static void promise03IndexComesAheadOfValue(Checks checks) {
        GranaryPartition store = Stores.rising(1);
        checks.index("row", () -> store.set(1, 0, 1000));
        checks.index("column", () -> store.set(0, 4, 1000));
    }

    static void promise03ColumnComesAheadOfRemovedRow(Checks checks) {
        GranaryPartition store = Stores.rising(1);
        store.remove(0);
        checks.index("column", () -> store.set(0, 4, 0));
    }

    static void promise03ValueComesAheadOfRemovedRow(Checks checks) {
        GranaryPartition store = Stores.rising(1);
        store.remove(0);
        checks.argument("value", () -> store.set(0, 0, 1000));
    }

    static void promise03RefusedSetChangesNothing(Checks checks) {
        GranaryPartition store = Stores.rising(2);
        store.remove(1);
        checks.argument("value", () -> store.set(0, 0, 1000));
        checks.state("removed", () -> store.set(1, 0, 500));
        checks.due("moment", 2, store::moment);
        checks.due("changes", 1, () -> store.changes(0));
        checks.due("bounds", 1, () -> store.greatest(0, 0));
    }

    // ---- "the rows from 16 times k to 16 times k plus 15"

    static void promise03Row15IsOfChunk0(Checks checks) {
        GranaryPartition store = Stores.rising(40);
        store.set(15, 0, 500);
        checks.due("chunk 0", 500, () -> store.greatest(0, 0));
        checks.due("chunk 1", 31, () -> store.greatest(1, 0));
    }

    static void promise03Row16IsOfChunk1(Checks checks) {
        GranaryPartition store = Stores.rising(40);
        store.set(16, 0, 500);
        checks.due("chunk 0", 15, () -> store.greatest(0, 0));
        checks.due("chunk 1", 500, () -> store.greatest(1, 0));
    }

    static void promise03Row159IsOfChunk9(Checks checks) {
        GranaryPartition store = Stores.rising(160);
        store.set(159, 0, 500);
        checks.due("chunk 9", 500, () -> store.greatest(9, 0));
        checks.due("chunk 8", 143, () -> store.greatest(8, 0));
    }

    // ---- 4: clear

    static void promise04ClearsTheFirstRow(Checks checks) {
        GranaryPartition store = Stores.rising(2);
        checks.due("clear", false, () -> store.clear(0, 0));
        checks.element("row 0", () -> store.valueAt(0, 0));
        checks.due("row 1", 1, () -> store.valueAt(1, 0));
    }

    static void promise04ClearsTheLastRow(Checks checks) {
        GranaryPartition store = Stores.rising(160);
        checks.due("clear", false, () -> store.clear(159, 3));
        checks.element("row 159", () -> store.valueAt(159, 3));
        checks.due("another column", 159, () -> store.valueAt(159, 0));
    }

    static void promise04RefusesRowBelow0(Checks checks) {
        GranaryPartition store = Stores.rising(2);
        checks.index("-1", () -> store.clear(-1, 0));
        checks.index("far below", () -> store.clear(Integer.MIN_VALUE, 0));
    }

    static void promise04RefusesRowBehindTheLast(Checks checks) {
        GranaryPartition store = Stores.rising(2);
        checks.index("2", () -> store.clear(2, 0));
        checks.index("far above", () -> store.clear(Integer.MAX_VALUE, 0));
    }

    static void promise04RefusesColumnBelow0(Checks checks) {
        GranaryPartition store = Stores.rising(2);
        checks.index("-1", () -> store.clear(1, -1));
        checks.index("far below", () -> store.clear(1, Integer.MIN_VALUE));
        checks.due("the row ahead stays", 0, () -> store.valueAt(0, 3));
    }

    static void promise04RefusesColumn4(Checks checks) {
        GranaryPartition store = Stores.rising(2);
        checks.index("4", () -> store.clear(0, 4));
        checks.index("far above", () -> store.clear(0, Integer.MAX_VALUE));
        checks.due("the row behind stays", 1, () -> store.valueAt(1, 0));
    }

    static void promise04TellsWhetherItWasMissing(Checks checks) {
        GranaryPartition store = Stores.rising(1);
        checks.due("it was not", false, () -> store.clear(0, 1));
        checks.due("now it was", true, () -> store.clear(0, 1));
        store.set(0, 1, 0);
        checks.due("0 is not missing", false, () -> store.clear(0, 1));
    }

    static void promise04OfAMissingOneIsAWrite(Checks checks) {
        GranaryPartition store = Stores.rising(1);
        store.clear(0, 1);
        store.clear(0, 1);
        checks.due("moment", 3, store::moment);
        checks.due("changes", 2, () -> store.changes(0));
    }

    static void promise04RefusesARemovedRow(Checks checks) {
        GranaryPartition store = Stores.rising(2);
        store.remove(1);
        checks.state("removed", () -> store.clear(1, 0));
        checks.due("the one ahead is not", false, () -> store.clear(0, 0));
    }

    static void promise04IndexComesAheadOfRemovedRow(Checks checks) {
        GranaryPartition store = Stores.rising(1);
        store.remove(0);
        checks.index("column", () -> store.clear(0, 4));
        checks.index("column", () -> store.clear(0, -1));
    }

    static void promise04RefusedClearChangesNothing(Checks checks) {
        GranaryPartition store = Stores.rising(2);
        store.remove(1);
        checks.state("removed", () -> store.clear(1, 0));
        checks.index("column", () -> store.clear(0, 4));
        checks.due("moment", 2, store::moment);
        checks.due("changes", 1, () -> store.changes(0));
        checks.due("bounds", false, () -> store.mayMiss(0, 0));
    }

    static void promise04Row15IsOfChunk0(Checks checks) {
        GranaryPartition store = Stores.rising(17);
        store.clear(15, 0);
        checks.due("chunk 0", true, () -> store.mayMiss(0, 0));
        checks.due("chunk 1", false, () -> store.mayMiss(1, 0));
    }

    static void promise04Row16IsOfChunk1(Checks checks) {
        GranaryPartition store = Stores.rising(17);
        store.clear(16, 0);
        checks.due("chunk 0", false, () -> store.mayMiss(0, 0));
        checks.due("chunk 1", true, () -> store.mayMiss(1, 0));
    }

    // ---- 5: remove

    static void promise05RemovesTheFirstRow(Checks checks) {
        GranaryPartition store = Stores.rising(3);
        checks.due("alive", 2, () -> store.remove(0));
        checks.element("row 0", () -> store.valueAt(0, 0));
        checks.due("row 1 keeps its number", 1, () -> store.valueAt(1, 0));
    }

    static void promise05RemovesTheLastRow(Checks checks) {
        GranaryPartition store = Stores.rising(160);
        checks.due("alive", 159, () -> store.remove(159));
        checks.element("it is removed", () -> store.valueAt(159, 0));
        checks.index("and there is none behind it", () -> store.valueAt(160, 0));
    }

    static void promise05RemovesTheOnlyRow(Checks checks) {
        GranaryPartition store = Stores.rising(1);
        checks.due("none is alive", 0, () -> store.remove(0));
        checks.due("its chunk stays", 1, store::chunks);
    }

    static void promise05RemovesAllRows(Checks checks) {
        GranaryPartition store = Stores.rising(160);
        for (int row = 0; row < 160; row++) {
            int asked = row;
            checks.due("alive", 159 - row, () -> store.remove(asked));
        }
        checks.due("the chunks stay", 10, store::chunks);
    }

    static void promise05RefusesRowBelow0(Checks checks) {
        GranaryPartition store = Stores.rising(2);
        checks.index("-1", () -> store.remove(-1));
        checks.index("far below", () -> store.remove(Integer.MIN_VALUE));
    }

    static void promise05RefusesRowBehindTheLast(Checks checks) {
        GranaryPartition store = Stores.rising(2);
        checks.index("2", () -> store.remove(2));
        checks.index("far above", () -> store.remove(Integer.MAX_VALUE));
    }

    static void promise05RefusesARowTwice(Checks checks) {
        GranaryPartition store = Stores.rising(3);
        store.remove(1);
        checks.state("again", () -> store.remove(1));
        checks.due("it was counted once", 1, () -> store.remove(0));
    }

    static void promise05RefusesARemovedRowOfAMendedChunk(Checks checks) {
        GranaryPartition store = Stores.rising(3);
        store.remove(1);
        store.mend(0);
        checks.state("again", () -> store.remove(1));
    }

    static void promise05RefusedRemovalChangesNothing(Checks checks) {
        GranaryPartition store = Stores.rising(3);
        store.remove(1);
        checks.state("again", () -> store.remove(1));
        checks.index("none", () -> store.remove(3));
        checks.due("moment", 2, store::moment);
        checks.due("changes", 1, () -> store.changes(0));
    }

    static void promise05CountsLoadedRowsAgain(Checks checks) {
        GranaryPartition store = Stores.rising(1);
        store.remove(0);
        store.load(2, 0, 0, 1);
        checks.due("alive", 1, () -> store.remove(2));
    }

    // ---- 6: valueAt

    static void promise06ReturnsTheLeastValue(Checks checks) {
        GranaryPartition store = Stores.ofValues(-999);
        checks.due("value", -999, () -> store.valueAt(0, 0));
    }

    static void promise06ReturnsTheGreatestValue(Checks checks) {
        GranaryPartition store = Stores.ofValues(999);
        checks.due("value", 999, () -> store.valueAt(0, 0));
    }

    static void promise06RefusesRowBelow0(Checks checks) {
        GranaryPartition store = Stores.rising(2);
        checks.index("-1", () -> store.valueAt(-1, 0));
        checks.index("far below", () -> store.valueAt(Integer.MIN_VALUE, 0));
    }

    static void promise06RefusesRowBehindTheLast(Checks checks) {
        GranaryPartition store = Stores.rising(2);
        checks.index("2", () -> store.valueAt(2, 0));
        checks.index("far above", () -> store.valueAt(Integer.MAX_VALUE, 0));
    }

    static void promise06RefusesColumnBelow0(Checks checks) {
        GranaryPartition store = Stores.rising(2);
        checks.index("-1", () -> store.valueAt(1, -1));
        checks.index("far below", () -> store.valueAt(1, Integer.MIN_VALUE));
    }

    static void promise06RefusesColumn4(Checks checks) {
        GranaryPartition store = Stores.rising(2);
        checks.due("3 is one", 0, () -> store.valueAt(0, 3));
        checks.index("4", () -> store.valueAt(0, 4));
        checks.index("far above", () -> store.valueAt(0, Integer.MAX_VALUE));
    }

    static void promise06HasNoMissingValue(Checks checks) {
        GranaryPartition store = Stores.rising(1);
        store.clear(0, 3);
        checks.element("missing", () -> store.valueAt(0, 3));
        checks.due("another column", 0, () -> store.valueAt(0, 2));
    }

    static void promise06HasNoValueOfARemovedRow(Checks checks) {
        GranaryPartition store = Stores.rising(1);
        store.remove(0);
        checks.element("removed", () -> store.valueAt(0, 0));
        store.mend(0);
        checks.element("removed and mended", () -> store.valueAt(0, 0));
    }

    static void promise06IndexComesAheadOfMissing(Checks checks) {
        GranaryPartition store = Stores.rising(1);
        store.remove(0);
        checks.index("column of a removed row", () -> store.valueAt(0, 4));
    }

    static void promise06IsAsItIsNow(Checks checks) {
        GranaryPartition store = Stores.rising(1);
        store.set(0, 0, 8);
        checks.due("not mended", 8, () -> store.valueAt(0, 0));
        store.mend(0);
        checks.due("mended", 8, () -> store.valueAt(0, 0));
        store.clear(0, 0);
        store.set(0, 0, 9);
        checks.due("set behind a clear", 9, () -> store.valueAt(0, 0));
    }

    // ---- 7: "the moment is the number of writes so far"

    static void promise07ALoadOfFortyRowsIsOneWrite(Checks checks) {
        GranaryPartition store = Stores.loaded(40, 0, 0, 1);
        checks.due("moment", 1, store::moment);
    }

    static void promise07ASetIsOneWrite(Checks checks) {
        GranaryPartition store = Stores.rising(1);
        store.set(0, 0, 1);
        checks.due("moment", 2, store::moment);
    }

    static void promise07AClearIsOneWrite(Checks checks) {
        GranaryPartition store = Stores.rising(1);
        store.clear(0, 0);
        checks.due("moment", 2, store::moment);
    }

    static void promise07ARemovalIsOneWrite(Checks checks) {
        GranaryPartition store = Stores.rising(1);
        store.remove(0);
        checks.due("moment", 2, store::moment);
    }

    static void promise07MendingIsNoWrite(Checks checks) {
        GranaryPartition store = Stores.rising(1);
        store.set(0, 0, 1);
        store.mend(0);
        checks.due("moment", 2, store::moment);
    }

    static void promise07FiltersAndScansAreNoWrites(Checks checks) {
        GranaryPartition store = Stores.rising(1);
        store.join('n', 0, 0);
        store.open(0, 0, 0, 6);
        store.takeBack(0, 1);
        store.read(40);
        checks.due("moment", 1, store::moment);
    }

    static void promise07RefusedWritesAreNone(Checks checks) {
        GranaryPartition store = Stores.rising(1);
        checks.argument("load", () -> store.load(41, 0, 0, 1));
        checks.index("set", () -> store.set(1, 0, 0));
        checks.index("clear", () -> store.clear(0, 4));
        checks.index("remove", () -> store.remove(-1));
        checks.due("moment", 1, store::moment);
    }
}
