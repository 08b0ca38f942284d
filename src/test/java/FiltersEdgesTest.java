/** The boundary cases of the promises 16 to 18 and of the filters they rest on, each in a test of its own. */
public final class FiltersEdgesTest {
    private static final int TRUE = 1;
    private static final int FALSE = 2;
    private static final int UNKNOWN = 4;

    public static void main(String[] args) {
        Cases.run(FiltersEdgesTest.class, 16, 18);
    }

    // ---- 16: "'<', '=', '>' or 'm'"

    static void promise16TakesFourKinds(Checks checks) {
        GranaryPartition store = new GranaryPartition();
        checks.due("<", 0, () -> store.compare('<', 0, 0));
        checks.due("=", 1, () -> store.compare('=', 0, 0));
        checks.due(">", 2, () -> store.compare('>', 0, 0));
        checks.due("m", 3, () -> store.compare('m', 0, 0));
    }

    static void promise16RefusesTheSignsBesideItsKinds(Checks checks) {
        GranaryPartition store = new GranaryPartition();
        for (char kind : new char[] {'<' - 1, '>' + 1, 'm' - 1, 'm' + 1, 'M', 0, 65535}) {
            checks.argument("sign " + (int) kind, () -> store.compare(kind, 0, 0));
        }
    }

    static void promise16RefusesTheKindsOfJoin(Checks checks) {
        GranaryPartition store = new GranaryPartition();
        for (char kind : new char[] {'a', 'o', 'n'}) {
            checks.argument("sign " + kind, () -> store.compare(kind, 0, 0));
        }
    }

    // ---- 16: the column

    static void promise16TakesColumns0To3(Checks checks) {
        GranaryPartition store = new GranaryPartition();
        checks.due("0", 0, () -> store.compare('=', 0, 0));
        checks.due("3", 1, () -> store.compare('=', 3, 0));
        checks.due("3 for m", 2, () -> store.compare('m', 3, 0));
    }

    static void promise16RefusesColumnBelow0(Checks checks) {
        GranaryPartition store = new GranaryPartition();
        for (char kind : new char[] {'<', '=', '>', 'm'}) {
            checks.argument("-1", () -> store.compare(kind, -1, 0));
            checks.argument("far below", () -> store.compare(kind, Integer.MIN_VALUE, 0));
        }
    }

    static void promise16RefusesColumn4(Checks checks) {
        GranaryPartition store = new GranaryPartition();
        for (char kind : new char[] {'<', '=', '>', 'm'}) {
            checks.argument("4", () -> store.compare(kind, 4, 0));
            checks.argument("far above", () -> store.compare(kind, Integer.MAX_VALUE, 0));
        }
    }

    // ---- 16: "the number, -999 to 999, of no meaning for 'm'"

    static void promise16TakesLeastNumber(Checks checks) {
        GranaryPartition store = new GranaryPartition();
        for (char kind : new char[] {'<', '=', '>'}) {
            checks.due("-999", "<=>".indexOf(kind), () -> store.compare(kind, 0, -999));
        }
    }

    static void promise16TakesGreatestNumber(Checks checks) {
        GranaryPartition store = new GranaryPartition();
        for (char kind : new char[] {'<', '=', '>'}) {
            checks.due("999", "<=>".indexOf(kind), () -> store.compare(kind, 0, 999));
        }
    }

    static void promise16RefusesNumberTooSmall(Checks checks) {
        GranaryPartition store = new GranaryPartition();
        for (char kind : new char[] {'<', '=', '>'}) {
            checks.argument("-1000", () -> store.compare(kind, 0, -1000));
            checks.argument("far below", () -> store.compare(kind, 0, Integer.MIN_VALUE));
        }
    }

    static void promise16RefusesNumberTooLarge(Checks checks) {
        GranaryPartition store = new GranaryPartition();
        for (char kind : new char[] {'<', '=', '>'}) {
            checks.argument("1000", () -> store.compare(kind, 0, 1000));
            checks.argument("far above", () -> store.compare(kind, 0, Integer.MAX_VALUE));
        }
    }

    static void promise16NumberHasNoMeaningForMissing(Checks checks) {
        GranaryPartition store = Stores.ofValues(1000 - 1, null);
        checks.due("-1000", 0, () -> store.compare('m', 0, -1000));
        checks.due("1000", 1, () -> store.compare('m', 0, 1000));
        checks.due("far below", 2, () -> store.compare('m', 0, Integer.MIN_VALUE));
        checks.due("far above", 3, () -> store.compare('m', 0, Integer.MAX_VALUE));
        for (int filter = 0; filter < 4; filter++) {
            chooses(checks, store, filter, false, true);
        }
    }

    // ---- 16: "At most 30 filters are there, numbered from 0"

    private static GranaryPartition withFilters(int many) {
        GranaryPartition store = new GranaryPartition();
        for (int i = 0; i < many; i++) {
            store.compare('m', 0, 0);
        }
        return store;
    }

    static void promise16MakesThe30thFilter(Checks checks) {
        GranaryPartition store = withFilters(29);
        checks.due("its number", 29, () -> store.compare('m', 0, 0));
    }

    static void promise16RefusesThe31stFilter(Checks checks) {
        GranaryPartition store = withFilters(30);
        checks.state("compare", () -> store.compare('m', 0, 0));
        checks.element("it is not there", () -> store.sum(30, 0));
        checks.due("the last one is", 0, () -> store.sum(29, 0));
    }

    static void promise16JoinedFiltersCountAmong30(Checks checks) {
        GranaryPartition store = withFilters(1);
        for (int i = 1; i < 30; i++) {
            store.join('n', 0, 0);
        }
        checks.state("compare", () -> store.compare('m', 0, 0));
    }

    static void promise16ArgumentComesAheadOfTooMany(Checks checks) {
        GranaryPartition store = withFilters(30);
        checks.argument("kind", () -> store.compare('a', 0, 0));
        checks.argument("column", () -> store.compare('m', 4, 0));
        checks.argument("number", () -> store.compare('<', 0, 1000));
    }

    static void promise16RefusedComparisonTakesNoNumber(Checks checks) {
        GranaryPartition store = withFilters(1);
        checks.argument("column", () -> store.compare('m', 4, 0));
        checks.element("none is there", () -> store.sum(1, 0));
        checks.due("the next one", 1, () -> store.compare('m', 0, 0));
    }

    // ---- 16: "compare a column with a number: they are unknown if it is missing"

    /** Which rows a filter chooses, told by the rows' column 1, in which each one has a bit of its own. */
    private static void chooses(Checks checks, GranaryPartition store, int filter, boolean... due) {
        int sum = 0;
        for (int row = 0; row < due.length; row++) {
            store.set(row, 1, 1 << row);
            sum += due[row] ? 1 << row : 0;
        }
        int chosen = sum;
        checks.due("chosen by " + filter, chosen, () -> store.sum(filter, 1));
    }

    private static void compares(Checks checks, char kind, int number, boolean... due) {
        GranaryPartition store = Stores.ofValues(4, 5, 6, null);
        chooses(checks, store, store.compare(kind, 0, number), due);
        chooses(checks, store, store.join('n', 0, 0), !due[0], !due[1], !due[2], false);
    }

    static void promise16LessIsNotEqual(Checks checks) {
        compares(checks, '<', 5, true, false, false, false);
    }

    static void promise16LessThanTheLeast(Checks checks) {
        compares(checks, '<', 4, false, false, false, false);
    }

    static void promise16GreaterIsNotEqual(Checks checks) {
        compares(checks, '>', 5, false, false, true, false);
    }

    static void promise16GreaterThanTheGreatest(Checks checks) {
        compares(checks, '>', 6, false, false, false, false);
    }

    static void promise16EqualIsNoNeighbour(Checks checks) {
        compares(checks, '=', 5, false, true, false, false);
    }

    static void promise16EqualToNone(Checks checks) {
        compares(checks, '=', 7, false, false, false, false);
    }

    static void promise16ExtremeNumbersCompare(Checks checks) {
        GranaryPartition store = Stores.ofValues(-999, 999, null);
        chooses(checks, store, store.compare('<', 0, -999), false, false, false);
        chooses(checks, store, store.compare('=', 0, -999), true, false, false);
        chooses(checks, store, store.compare('>', 0, -999), false, true, false);
        chooses(checks, store, store.compare('<', 0, 999), true, false, false);
        chooses(checks, store, store.compare('=', 0, 999), false, true, false);
        chooses(checks, store, store.compare('>', 0, 999), false, false, false);
    }

    static void promise16MissingIsNeverUnknown(Checks checks) {
        GranaryPartition store = Stores.ofValues(5, null);
        chooses(checks, store, store.compare('m', 0, 0), false, true);
        chooses(checks, store, store.join('n', 0, 0), true, false);
    }

    static void promise16ComparesItsOwnColumn(Checks checks) {
        GranaryPartition store = Stores.ofValues(5, 6);
        store.set(0, 3, 6);
        chooses(checks, store, store.compare('=', 3, 6), true, false);
    }

    // ---- 17: "'a', 'o' or 'n'"

    static void promise17TakesThreeKinds(Checks checks) {
        GranaryPartition store = withFilters(1);
        checks.due("a", 1, () -> store.join('a', 0, 0));
        checks.due("o", 2, () -> store.join('o', 0, 0));
        checks.due("n", 3, () -> store.join('n', 0, 0));
    }

    static void promise17RefusesTheSignsBesideItsKinds(Checks checks) {
        GranaryPartition store = withFilters(1);
        for (char kind : new char[] {'a' - 1, 'b', 'o' + 1, 'A', 'O', 'N', 0, 65535}) {
            checks.argument("sign " + (int) kind, () -> store.join(kind, 0, 0));
        }
    }

    static void promise17RefusesTheKindsOfCompare(Checks checks) {
        GranaryPartition store = withFilters(1);
        for (char kind : new char[] {'<', '=', '>', 'm'}) {
            checks.argument("sign " + kind, () -> store.join(kind, 0, 0));
        }
    }

    // ---- 17: "no such filter, for one that has a meaning"

    static void promise17RefusesFirstBelow0(Checks checks) {
        GranaryPartition store = withFilters(1);
        for (char kind : new char[] {'a', 'o', 'n'}) {
            checks.element("-1", () -> store.join(kind, -1, 0));
            checks.element("far below", () -> store.join(kind, Integer.MIN_VALUE, 0));
        }
    }

    static void promise17RefusesFirstBehindTheLast(Checks checks) {
        GranaryPartition store = withFilters(1);
        for (char kind : new char[] {'a', 'o', 'n'}) {
            checks.element("its own number", () -> store.join(kind, 1, 0));
            checks.element("far above", () -> store.join(kind, Integer.MAX_VALUE, 0));
        }
    }

    static void promise17RefusesSecondBelow0(Checks checks) {
        GranaryPartition store = withFilters(1);
        for (char kind : new char[] {'a', 'o'}) {
            checks.element("-1", () -> store.join(kind, 0, -1));
            checks.element("far below", () -> store.join(kind, 0, Integer.MIN_VALUE));
        }
    }

    static void promise17RefusesSecondBehindTheLast(Checks checks) {
        GranaryPartition store = withFilters(1);
        for (char kind : new char[] {'a', 'o'}) {
            checks.element("its own number", () -> store.join(kind, 0, 1));
            checks.element("far above", () -> store.join(kind, 0, Integer.MAX_VALUE));
        }
    }

    static void promise17SecondHasNoMeaningForNot(Checks checks) {
        GranaryPartition store = withFilters(1);
        checks.due("-1", 1, () -> store.join('n', 0, -1));
        checks.due("its own number", 2, () -> store.join('n', 0, 2));
        checks.due("far below", 3, () -> store.join('n', 0, Integer.MIN_VALUE));
        checks.due("far above", 4, () -> store.join('n', 0, Integer.MAX_VALUE));
    }

    static void promise17SecondOfNotIsNotInTheFilter(Checks checks) {
        GranaryPartition store = Stores.rising(1);
        store.compare('=', 1, 5);
        // Of the filter 0 alone, which compares the column 0.
        store.join('n', 0, 1);
        store.open(2, -1, 2, 1);
        store.read(1);
        store.set(0, 1, 7);
        checks.due("the second one's column was set", true, () -> store.isKept(0));
    }

    static void promise17RefusesAnyFilterIfThereIsNone(Checks checks) {
        GranaryPartition store = new GranaryPartition();
        checks.element("a", () -> store.join('a', 0, 0));
        checks.element("n", () -> store.join('n', 0, 0));
    }

    static void promise17JoinsAFilterWithItself(Checks checks) {
        GranaryPartition store = Stores.ofValues(4, 6, null);
        store.compare('<', 0, 5);
        chooses(checks, store, store.join('a', 0, 0), true, false, false);
        chooses(checks, store, store.join('o', 0, 0), true, false, false);
    }

    // ---- 17: "there are 30 filters"

    static void promise17MakesThe30thFilter(Checks checks) {
        GranaryPartition store = withFilters(29);
        checks.due("its number", 29, () -> store.join('a', 0, 28));
    }

    static void promise17RefusesThe31stFilter(Checks checks) {
        GranaryPartition store = withFilters(30);
        checks.state("a", () -> store.join('a', 0, 29));
        checks.state("o", () -> store.join('o', 0, 29));
        checks.state("n", () -> store.join('n', 29, 0));
        checks.element("it is not there", () -> store.sum(30, 0));
    }

    // ---- 17: "more than 12 comparisons, each counted as often as it is in it"

    /** The filters 0 to 4, made of 1, 2, 4, 8 and 12 comparisons. */
    private static GranaryPartition ofMany() {
        GranaryPartition store = withFilters(1);
        store.join('a', 0, 0);
        store.join('a', 1, 1);
        store.join('o', 2, 2);
        store.join('o', 3, 2);
        return store;
    }

    static void promise17MakesAFilterOf12Comparisons(Checks checks) {
        GranaryPartition store = ofMany();
        checks.due("8 and 4", 5, () -> store.join('a', 3, 2));
        checks.due("4 and 8", 6, () -> store.join('o', 2, 3));
    }

    static void promise17RefusesAFilterOf13Comparisons(Checks checks) {
        GranaryPartition store = ofMany();
        checks.state("12 and 1", () -> store.join('a', 4, 0));
        checks.state("1 and 12", () -> store.join('o', 0, 4));
    }

    static void promise17RefusesAFilterOf24Comparisons(Checks checks) {
        GranaryPartition store = ofMany();
        checks.state("twice the same", () -> store.join('a', 4, 4));
    }

    static void promise17CountsAComparisonAsOftenAsItIsInIt(Checks checks) {
        GranaryPartition store = ofMany();
        // There is but one comparison, yet it is in the filter 3 eight times.
        checks.state("8 and 8", () -> store.join('a', 3, 3));
    }

    static void promise17NotAddsNoComparison(Checks checks) {
        GranaryPartition store = ofMany();
        checks.due("not of 12", 5, () -> store.join('n', 4, 4));
        checks.state("they are in it still", () -> store.join('a', 5, 0));
        checks.due("not of not of 12", 6, () -> store.join('n', 5, 0));
    }

    static void promise17RefusedFilterTakesNoNumber(Checks checks) {
        GranaryPartition store = ofMany();
        checks.state("13", () -> store.join('a', 4, 0));
        checks.element("none", () -> store.join('a', 4, 5));
        checks.argument("kind", () -> store.join('m', 0, 0));
        checks.due("the next one", 5, () -> store.compare('m', 0, 0));
    }

    static void promise17KindComesAheadOfNoSuchFilter(Checks checks) {
        GranaryPartition store = withFilters(1);
        checks.argument("kind", () -> store.join('m', 1, 1));
    }

    static void promise17KindComesAheadOfTooMany(Checks checks) {
        GranaryPartition store = withFilters(30);
        checks.argument("kind", () -> store.join('m', 0, 0));
    }

    static void promise17NoSuchFilterComesAheadOfTooMany(Checks checks) {
        GranaryPartition store = withFilters(30);
        checks.element("first", () -> store.join('n', 30, 0));
        checks.element("second", () -> store.join('a', 0, 30));
    }

    static void promise17NoSuchFilterComesAheadOf13Comparisons(Checks checks) {
        GranaryPartition store = ofMany();
        checks.element("second", () -> store.join('a', 4, 5));
    }

    static void promise17LongestChainOfNots(Checks checks) {
        GranaryPartition store = Stores.ofValues(4, 6, null);
        store.compare('<', 0, 5);
        for (int i = 0; i < 29; i++) {
            store.join('n', i, 0);
        }
        chooses(checks, store, 29, false, true, false);
        chooses(checks, store, 28, true, false, false);
    }

    // ---- 17: what a row makes of the parts

    /** Joins a part that is true, false or unknown for the only row with another one, and asks for the outcome. */
    private static void joined(Checks checks, char kind, int one, int other, int due) {
        GranaryPartition store = Stores.ofBase(0, 1);
        store.clear(0, 2);
        store.remove(1);
        store.mend(0);
        int[] parts = {0, store.compare('=', 0, 0), store.compare('=', 0, 1), 0, store.compare('=', 2, 0)};
        int filter = store.join(kind, parts[one], parts[other]);
        int contrary = store.join('n', filter, 0);
        store.set(0, 1, 7);
        checks.due("chosen", due == TRUE ? 7 : 0, () -> store.sum(filter, 1));
        checks.due("not chosen", due == FALSE ? 7 : 0, () -> store.sum(contrary, 1));
        checks.due("by the bounds", due, () -> store.canBe(filter, 0));
    }

    static void promise17TrueAndTrueIsTrue(Checks checks) {
        joined(checks, 'a', TRUE, TRUE, TRUE);
    }

    static void promise17TrueAndFalseIsFalse(Checks checks) {
        joined(checks, 'a', TRUE, FALSE, FALSE);
        joined(checks, 'a', FALSE, TRUE, FALSE);
    }

    static void promise17FalseAndFalseIsFalse(Checks checks) {
        joined(checks, 'a', FALSE, FALSE, FALSE);
    }

    static void promise17TrueAndUnknownIsUnknown(Checks checks) {
        joined(checks, 'a', TRUE, UNKNOWN, UNKNOWN);
        joined(checks, 'a', UNKNOWN, TRUE, UNKNOWN);
    }

    static void promise17FalseAndUnknownIsFalse(Checks checks) {
        joined(checks, 'a', FALSE, UNKNOWN, FALSE);
        joined(checks, 'a', UNKNOWN, FALSE, FALSE);
    }

    static void promise17UnknownAndUnknownIsUnknown(Checks checks) {
        joined(checks, 'a', UNKNOWN, UNKNOWN, UNKNOWN);
    }

    static void promise17TrueOrTrueIsTrue(Checks checks) {
        joined(checks, 'o', TRUE, TRUE, TRUE);
    }

    static void promise17TrueOrFalseIsTrue(Checks checks) {
        joined(checks, 'o', TRUE, FALSE, TRUE);
        joined(checks, 'o', FALSE, TRUE, TRUE);
    }

    static void promise17FalseOrFalseIsFalse(Checks checks) {
        joined(checks, 'o', FALSE, FALSE, FALSE);
    }

    static void promise17TrueOrUnknownIsTrue(Checks checks) {
        joined(checks, 'o', TRUE, UNKNOWN, TRUE);
        joined(checks, 'o', UNKNOWN, TRUE, TRUE);
    }

    static void promise17FalseOrUnknownIsUnknown(Checks checks) {
        joined(checks, 'o', FALSE, UNKNOWN, UNKNOWN);
        joined(checks, 'o', UNKNOWN, FALSE, UNKNOWN);
    }

    static void promise17UnknownOrUnknownIsUnknown(Checks checks) {
        joined(checks, 'o', UNKNOWN, UNKNOWN, UNKNOWN);
    }

    static void promise17NotOfEach(Checks checks) {
        joined(checks, 'n', TRUE, TRUE, FALSE);
        joined(checks, 'n', FALSE, TRUE, TRUE);
        joined(checks, 'n', UNKNOWN, TRUE, UNKNOWN);
    }

    // ---- 18: exceptions

    static void promise18RefusesFilterBelow0(Checks checks) {
        GranaryPartition store = Stores.rising(16);
        checks.element("-1", () -> store.canBe(-1, 0));
        checks.element("far below", () -> store.canBe(Integer.MIN_VALUE, 0));
    }

    static void promise18RefusesFilterBehindTheLast(Checks checks) {
        GranaryPartition store = Stores.rising(16);
        checks.element("1", () -> store.canBe(1, 0));
        checks.element("far above", () -> store.canBe(Integer.MAX_VALUE, 0));
    }

    static void promise18RefusesChunkBelow0(Checks checks) {
        GranaryPartition store = Stores.rising(16);
        checks.index("-1", () -> store.canBe(0, -1));
        checks.index("far below", () -> store.canBe(0, Integer.MIN_VALUE));
    }

    static void promise18RefusesChunkBehindTheLast(Checks checks) {
        GranaryPartition store = Stores.rising(160);
        checks.due("9 is the last", TRUE, () -> store.canBe(0, 9));
        checks.index("10", () -> store.canBe(0, 10));
        checks.index("far above", () -> store.canBe(0, Integer.MAX_VALUE));
    }

    static void promise18FilterComesAheadOfChunk(Checks checks) {
        GranaryPartition store = Stores.rising(16);
        checks.element("filter", () -> store.canBe(1, 1));
        checks.element("filter", () -> store.canBe(-1, -1));
    }

    // ---- 18: "can be true if a number from the least to the greatest one fulfils it, can be false if one does not"

    private static void canBe(Checks checks, char kind, int number, int due) {
        GranaryPartition store = Stores.ofBase(5, 20);
        store.compare(kind, 0, number);
        checks.due(kind + " " + number, due, () -> store.canBe(0, 0));
        store.clear(0, 0);
        checks.due(kind + " " + number + " with a missing one", due + UNKNOWN, () -> store.canBe(0, 0));
    }

    static void promise18LessThanTheLeastIsNeverTrue(Checks checks) {
        canBe(checks, '<', 5, FALSE);
        canBe(checks, '<', -999, FALSE);
    }

    static void promise18LessThanOneMoreThanTheLeast(Checks checks) {
        canBe(checks, '<', 6, TRUE + FALSE);
    }

    static void promise18LessThanTheGreatest(Checks checks) {
        canBe(checks, '<', 20, TRUE + FALSE);
    }

    static void promise18LessThanOneMoreThanTheGreatestIsNeverFalse(Checks checks) {
        canBe(checks, '<', 21, TRUE);
        canBe(checks, '<', 999, TRUE);
    }

    static void promise18GreaterThanOneLessThanTheLeastIsNeverFalse(Checks checks) {
        canBe(checks, '>', 4, TRUE);
        canBe(checks, '>', -999, TRUE);
    }

    static void promise18GreaterThanTheLeast(Checks checks) {
        canBe(checks, '>', 5, TRUE + FALSE);
    }

    static void promise18GreaterThanOneLessThanTheGreatest(Checks checks) {
        canBe(checks, '>', 19, TRUE + FALSE);
    }

    static void promise18GreaterThanTheGreatestIsNeverTrue(Checks checks) {
        canBe(checks, '>', 20, FALSE);
        canBe(checks, '>', 999, FALSE);
    }

    static void promise18EqualToOneLessThanTheLeastIsNeverTrue(Checks checks) {
        canBe(checks, '=', 4, FALSE);
    }

    static void promise18EqualToTheLeast(Checks checks) {
        canBe(checks, '=', 5, TRUE + FALSE);
    }

    static void promise18EqualToANumberThatNoRowHas(Checks checks) {
        canBe(checks, '=', 11, TRUE + FALSE);
    }

    static void promise18EqualToTheGreatest(Checks checks) {
        canBe(checks, '=', 20, TRUE + FALSE);
    }

    static void promise18EqualToOneMoreThanTheGreatestIsNeverTrue(Checks checks) {
        canBe(checks, '=', 21, FALSE);
    }

    private static void canBeOfOneNumber(Checks checks, char kind, int number, int due) {
        GranaryPartition store = Stores.ofBase(5, 5);
        store.compare(kind, 0, number);
        checks.due(kind + " " + number, due, () -> store.canBe(0, 0));
    }

    static void promise18OneNumberAloneIsSure(Checks checks) {
        canBeOfOneNumber(checks, '=', 5, TRUE);
        canBeOfOneNumber(checks, '=', 4, FALSE);
        canBeOfOneNumber(checks, '=', 6, FALSE);
        canBeOfOneNumber(checks, '<', 5, FALSE);
        canBeOfOneNumber(checks, '<', 6, TRUE);
        canBeOfOneNumber(checks, '>', 5, FALSE);
        canBeOfOneNumber(checks, '>', 4, TRUE);
    }

    static void promise18BoundsAtTheExtremes(Checks checks) {
        GranaryPartition store = Stores.ofBase(-999, 999);
        store.compare('<', 0, -999);
        store.compare('>', 0, 999);
        store.compare('=', 0, -999);
        store.compare('=', 0, 999);
        checks.due("less than the least of all", FALSE, () -> store.canBe(0, 0));
        checks.due("greater than the greatest of all", FALSE, () -> store.canBe(1, 0));
        checks.due("the least of all", TRUE + FALSE, () -> store.canBe(2, 0));
        checks.due("the greatest of all", TRUE + FALSE, () -> store.canBe(3, 0));
    }

    static void promise18BoundsThatAreKeptCountNotTheRows(Checks checks) {
        GranaryPartition store = Stores.ofBase(5, 5);
        store.set(0, 0, 9);
        store.set(0, 0, 5);
        store.compare('>', 0, 8);
        checks.due("as long as it lies beside", TRUE + FALSE, () -> store.canBe(0, 0));
        store.mend(0);
        checks.due("mended", FALSE, () -> store.canBe(0, 0));
    }

    // ---- 18: "'m' can be true if one may be missing, and false if there are bounds"

    private static void canMiss(Checks checks, int due, Integer... values) {
        GranaryPartition store = Stores.ofBase(values);
        store.compare('m', 0, 0);
        checks.due("m", due, () -> store.canBe(0, 0));
    }

    static void promise18MissingIsFalseIfNoneMayBe(Checks checks) {
        canMiss(checks, FALSE, 5, 6);
    }

    static void promise18MissingIsBothIfOneMayBe(Checks checks) {
        canMiss(checks, TRUE + FALSE, 5, null);
    }

    static void promise18MissingIsTrueIfAllAre(Checks checks) {
        canMiss(checks, TRUE, null, null);
    }

    static void promise18ComparisonIsUnknownIfAllAreMissing(Checks checks) {
        GranaryPartition store = Stores.ofBase(null, null);
        store.compare('<', 0, 999);
        store.compare('=', 0, 0);
        store.compare('>', 0, -999);
        for (int filter = 0; filter < 3; filter++) {
            int asked = filter;
            checks.due("filter " + filter, UNKNOWN, () -> store.canBe(asked, 0));
        }
    }

    static void promise18NoRowThatCountsCanBeNothing(Checks checks) {
        GranaryPartition store = Stores.ofBase(5, null);
        store.remove(0);
        store.remove(1);
        store.mend(0);
        store.compare('m', 0, 0);
        store.compare('=', 0, 5);
        store.join('a', 0, 1);
        store.join('o', 0, 1);
        store.join('n', 0, 0);
        for (int filter = 0; filter < 5; filter++) {
            int asked = filter;
            checks.due("filter " + filter, 0, () -> store.canBe(asked, 0));
        }
    }

    // ---- 18: "what others can be are all that comes of what their parts can be"

    private static void together(Checks checks, char kind, int due, int one, int other) {
        // The parts 0 to 6 can be: true; false; either; unknown; true or unknown; false or unknown; all three.
        GranaryPartition store = Stores.ofBase(0, 1);
        store.clear(0, 2);
        store.clear(1, 2);
        store.mend(0);
        store.clear(0, 3);
        store.set(0, 1, 1);
        store.clear(0, 1);
        store.compare('<', 0, 2);
        store.compare('>', 0, 1);
        store.compare('=', 0, 0);
        store.compare('=', 2, 0);
        store.compare('=', 3, 0);
        store.compare('>', 3, 0);
        store.compare('=', 1, 0);
        int filter = store.join(kind, one, other);
        checks.due(one + " " + kind + " " + other, due, () -> store.canBe(filter, 0));
    }

    static void promise18PartsAreAsTheirNamesSay(Checks checks) {
        together(checks, 'a', TRUE, 0, 0);
        together(checks, 'a', FALSE, 1, 1);
        together(checks, 'a', TRUE + FALSE, 2, 2);
        together(checks, 'a', UNKNOWN, 3, 3);
        together(checks, 'a', TRUE + UNKNOWN, 4, 4);
        together(checks, 'a', FALSE + UNKNOWN, 5, 5);
        together(checks, 'a', TRUE + FALSE + UNKNOWN, 6, 6);
    }

    static void promise18BothOfEitherAndUnknown(Checks checks) {
        together(checks, 'a', FALSE + UNKNOWN, 2, 3);
        together(checks, 'a', FALSE + UNKNOWN, 3, 2);
    }

    static void promise18BothOfTwoThatCanBeUnknown(Checks checks) {
        together(checks, 'a', FALSE + UNKNOWN, 4, 5);
        together(checks, 'a', FALSE + UNKNOWN, 5, 4);
    }

    static void promise18BothWithFalseIsFalse(Checks checks) {
        together(checks, 'a', FALSE, 1, 6);
        together(checks, 'a', FALSE, 6, 1);
    }

    static void promise18BothWithTrueIsTheOther(Checks checks) {
        together(checks, 'a', TRUE + FALSE + UNKNOWN, 0, 6);
        together(checks, 'a', TRUE + UNKNOWN, 4, 0);
    }

    static void promise18BothOfEitherAndTrueOrUnknownIsAll(Checks checks) {
        together(checks, 'a', TRUE + FALSE + UNKNOWN, 2, 4);
        together(checks, 'a', TRUE + FALSE + UNKNOWN, 4, 2);
    }

    static void promise18OneOfEitherAndUnknown(Checks checks) {
        together(checks, 'o', TRUE + UNKNOWN, 2, 3);
        together(checks, 'o', TRUE + UNKNOWN, 3, 2);
    }

    static void promise18OneOfTwoThatCanBeUnknown(Checks checks) {
        together(checks, 'o', TRUE + UNKNOWN, 4, 5);
        together(checks, 'o', TRUE + UNKNOWN, 5, 4);
    }

    static void promise18OneWithTrueIsTrue(Checks checks) {
        together(checks, 'o', TRUE, 0, 6);
        together(checks, 'o', TRUE, 6, 0);
    }

    static void promise18OneWithFalseIsTheOther(Checks checks) {
        together(checks, 'o', TRUE + FALSE + UNKNOWN, 1, 6);
        together(checks, 'o', FALSE + UNKNOWN, 5, 1);
    }

    static void promise18OneOfEitherAndFalseOrUnknownIsAll(Checks checks) {
        together(checks, 'o', TRUE + FALSE + UNKNOWN, 2, 5);
        together(checks, 'o', TRUE + FALSE + UNKNOWN, 5, 2);
    }

    static void promise18NotTurnsTrueAndFalseRound(Checks checks) {
        together(checks, 'n', FALSE + UNKNOWN, 4, 0);
        together(checks, 'n', TRUE + UNKNOWN, 5, 0);
        together(checks, 'n', TRUE + FALSE + UNKNOWN, 6, 0);
        together(checks, 'n', UNKNOWN, 3, 0);
    }

    /** The parts are taken by themselves, even if no row can make both of them true. */
    static void promise18FilterAndItsContraryCanBeTrue(Checks checks) {
        GranaryPartition store = Stores.ofBase(0, 1);
        store.compare('=', 0, 0);
        store.join('n', 0, 0);
        store.join('a', 0, 1);
        store.join('o', 0, 1);
        checks.due("both", TRUE + FALSE, () -> store.canBe(2, 0));
        checks.due("one of them", TRUE + FALSE, () -> store.canBe(3, 0));
    }
}
