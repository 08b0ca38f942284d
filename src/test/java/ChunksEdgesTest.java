/** The boundary cases of the promises 8 to 15 and of the encodings and bounds they rest on, each in a test of its own. */
public final class ChunksEdgesTest {
    public static void main(String[] args) {
        Cases.run(ChunksEdgesTest.class, 8, 15);
    }

    // ---- 8: "as far as they are there"

    private static void chunksOf(Checks checks, int rows, int due) {
        GranaryPartition store = Stores.rising(rows);
        checks.due("chunks of " + rows + " rows", due, store::chunks);
    }

    static void promise08NoRowsAreNoChunk(Checks checks) {
        chunksOf(checks, 0, 0);
    }

    static void promise08OneRowIsOneChunk(Checks checks) {
        chunksOf(checks, 1, 1);
    }

    static void promise08SixteenRowsAreOneChunk(Checks checks) {
        chunksOf(checks, 16, 1);
    }

    static void promise08SeventeenRowsAreTwoChunks(Checks checks) {
        chunksOf(checks, 17, 2);
    }

    static void promise08AllRowsAreTenChunks(Checks checks) {
        chunksOf(checks, 144, 9);
        chunksOf(checks, 145, 10);
        chunksOf(checks, 160, 10);
    }

    static void promise08RemovedRowsKeepTheirChunk(Checks checks) {
        GranaryPartition store = Stores.rising(17);
        store.remove(16);
        store.mend(1);
        checks.due("chunks", 2, store::chunks);
    }

    static void promise08RefusedLoadMakesNoChunk(Checks checks) {
        GranaryPartition store = Stores.rising(16);
        checks.argument("turn", () -> store.load(1, 0, 0, 0));
        checks.due("chunks", 1, store::chunks);
    }

    // ---- 9 and 10: exceptions

    static void promise09RefusesChunkBelow0(Checks checks) {
        GranaryPartition store = Stores.rising(17);
        checks.index("-1", () -> store.encoding(-1, 0));
        checks.index("far below", () -> store.encoding(Integer.MIN_VALUE, 0));
    }

    static void promise09RefusesChunkBehindTheLast(Checks checks) {
        GranaryPartition store = Stores.rising(16);
        checks.index("1", () -> store.encoding(1, 0));
        checks.index("far above", () -> store.encoding(Integer.MAX_VALUE, 0));
        store.load(1, 0, 0, 1);
        checks.due("now it is there", 'p', () -> store.encoding(1, 0));
    }

    static void promise09RefusesColumnBelow0(Checks checks) {
        GranaryPartition store = Stores.rising(16);
        checks.index("-1", () -> store.encoding(0, -1));
        checks.index("far below", () -> store.encoding(0, Integer.MIN_VALUE));
    }

    static void promise09RefusesColumn4(Checks checks) {
        GranaryPartition store = Stores.rising(16);
        checks.due("3 is one", 'o', () -> store.encoding(0, 3));
        checks.index("4", () -> store.encoding(0, 4));
        checks.index("far above", () -> store.encoding(0, Integer.MAX_VALUE));
    }

    static void promise10RefusesChunkBelow0(Checks checks) {
        GranaryPartition store = Stores.rising(17);
        checks.index("-1", () -> store.bits(-1, 0));
        checks.index("far below", () -> store.bits(Integer.MIN_VALUE, 0));
    }

    static void promise10RefusesChunkBehindTheLast(Checks checks) {
        GranaryPartition store = Stores.rising(160);
        checks.due("9 is the last", 79, () -> store.bits(9, 0));
        checks.index("10", () -> store.bits(10, 0));
        checks.index("far above", () -> store.bits(Integer.MAX_VALUE, 0));
    }

    static void promise10RefusesColumnBelow0(Checks checks) {
        GranaryPartition store = Stores.rising(16);
        checks.index("-1", () -> store.bits(0, -1));
        checks.index("far below", () -> store.bits(0, Integer.MIN_VALUE));
    }

    static void promise10RefusesColumn4(Checks checks) {
        GranaryPartition store = Stores.rising(16);
        checks.index("4", () -> store.bits(0, 4));
        checks.index("far above", () -> store.bits(0, Integer.MAX_VALUE));
    }

    // ---- 9 and 10: few rows, all missing

    private static void encoded(Checks checks, GranaryPartition store, char kind, int bits) {
        checks.due("encoding", kind, () -> store.encoding(0, 0));
        checks.due("bits", bits, () -> store.bits(0, 0));
    }

    private static void encoded(Checks checks, char kind, int bits, Integer... values) {
        encoded(checks, Stores.ofBase(values), kind, bits);
    }

    static void promise09OneRowIsPlain(Checks checks) {
        encoded(checks, 'p', 11, 7);
    }

    static void promise09OneMissingRowIsPlain(Checks checks) {
        encoded(checks, 'p', 11, (Integer) null);
    }

    static void promise09TwoLikeRowsAreADictionary(Checks checks) {
        encoded(checks, 'd', 11, -999, -999);
    }

    static void promise09TwoNeighboursAreOffsets(Checks checks) {
        encoded(checks, 'o', 17, 998, 999);
    }

    static void promise09TwoFarRowsArePlain(Checks checks) {
        // Offsets take 15 and twice 4, a dictionary 22 and 2.
        encoded(checks, 'p', 22, 0, 8);
    }

    static void promise09AllMissingIsADictionaryOfOne(Checks checks) {
        encoded(checks, 'd', 11, new Integer[16]);
    }

    static void promise09FullChunkOfOneValueIsADictionaryOfOne(Checks checks) {
        encoded(checks, Stores.loaded(16, 998, 0, 999), 'd', 11);
    }

    static void promise09RowsOfTheNextChunkDoNotCount(Checks checks) {
        GranaryPartition store = Stores.loaded(16, 5, 0, 999);
        store.load(16, 900, 1, 999);
        encoded(checks, store, 'd', 11);
        checks.due("the next chunk", 79, () -> store.bits(1, 0));
    }

    static void promise10ChunkThatIsNotFullTakesItsRowsAlone(Checks checks) {
        GranaryPartition store = Stores.rising(20);
        // Rows 16 to 19: offsets take 15 and 2 for each of four rows.
        checks.due("four rows", 23, () -> store.bits(1, 0));
        store.load(12, 20, 1, 999);
        checks.due("sixteen rows", 79, () -> store.bits(1, 0));
    }

    // ---- 9: "of several the first one of these"

    static void promise09PlainComesAheadOfRuns(Checks checks) {
        // Eleven runs take 165, and so do fifteen plain rows; a dictionary takes 181, offsets 180.
        encoded(checks, 'p', 165, -999, -999, 999, 999, -500, -500, 500, 500, -300, 300, -200, 200, -100, 100, 0);
    }

    static void promise09PlainComesAheadOfADictionary(Checks checks) {
        encoded(checks, 'p', 11, 500);
    }

    static void promise09PlainComesAheadOfOffsets(Checks checks) {
        // Three plain rows take 33, and so do 15 and three times 6.
        encoded(checks, 'p', 33, 0, 63, 31);
    }

    static void promise09RunsComeAheadOfADictionary(Checks checks) {
        // Two runs take 30, and so do 22 and eight times 1.
        encoded(checks, 'r', 30, 0, 0, 0, 0, 999, 999, 999, 999);
    }

    static void promise09RunsComeAheadOfOffsets(Checks checks) {
        // Two runs take 30, and so do 15 and fifteen times 1.
        encoded(checks, 'r', 30, 4, 4, 4, 4, 4, 4, 4, 5, 5, 5, 5, 5, 5, 5, 5);
    }

    static void promise09ADictionaryComesAheadOfOffsets(Checks checks) {
        // 22 and seven times 1, and 15 and seven times 2.
        encoded(checks, 'd', 29, 0, 2, 0, 2, 0, 2, 0);
    }

    static void promise09OneBitLessIsEnough(Checks checks) {
        // Two runs take 30, a dictionary of seven rows 29, and of nine rows 31.
        encoded(checks, 'd', 29, 0, 0, 0, 0, 999, 999, 999);
        encoded(checks, 'r', 30, 0, 0, 0, 0, 999, 999, 999, 999, 999);
    }

    // ---- 9: "15 for each run of rows side by side with the same base value, missing being like one"

    static void promise09MissingRowsSideBySideAreOneRun(Checks checks) {
        encoded(checks, 'r', 30, null, null, null, null, null, null, null, null, null, 5, 5, 5, 5, 5, 5, 5);
    }

    static void promise09RunsThatComeAgainCountAgain(Checks checks) {
        // Three runs of two values: 45, and a dictionary takes 22 and 16.
        encoded(checks, 'd', 38, 5, 5, 5, 5, 5, 5, 900, 900, 900, 900, 5, 5, 5, 5, 5, 5);
    }

    static void promise10RunsOfThreeValues(Checks checks) {
        // Three runs: 45, and a dictionary takes 33 and 32.
        encoded(checks, 'r', 45, 5, 5, 5, 5, 5, 5, null, null, null, null, 900, 900, 900, 900, 900, 900);
    }

    // ---- 10: a dictionary's "2 to the power of b is not less than the number of different ones"

    /** Sixteen rows with so many different values, far from one another and never side by side. */
    private static void dictionaryOf(Checks checks, int different, char kind, int bits) {
        Integer[] values = new Integer[16];
        for (int i = 0; i < 16; i++) {
            int which = i % different;
            values[i] = which % 2 == 0 ? -999 + which : 999 - which;
        }
        encoded(checks, kind, bits, values);
    }

    static void promise10DictionaryOfTwoNeedsOneBit(Checks checks) {
        dictionaryOf(checks, 2, 'd', 22 + 16);
    }

    static void promise10DictionaryOfThreeNeedsTwoBits(Checks checks) {
        dictionaryOf(checks, 3, 'd', 33 + 32);
    }

    static void promise10DictionaryOfFourNeedsTwoBits(Checks checks) {
        dictionaryOf(checks, 4, 'd', 44 + 32);
    }

    static void promise10DictionaryOfFiveNeedsThreeBits(Checks checks) {
        dictionaryOf(checks, 5, 'd', 55 + 48);
    }

    static void promise10DictionaryOfEightNeedsThreeBits(Checks checks) {
        dictionaryOf(checks, 8, 'd', 88 + 48);
    }

    static void promise10DictionaryOfNineNeedsFourBits(Checks checks) {
        dictionaryOf(checks, 9, 'd', 99 + 64);
    }

    static void promise10DictionaryOfTenIsStillLessThanPlain(Checks checks) {
        dictionaryOf(checks, 10, 'd', 110 + 64);
    }

    static void promise10DictionaryOfElevenIsMoreThanPlain(Checks checks) {
        dictionaryOf(checks, 11, 'p', 176);
    }

    static void promise10SixteenDifferentFarValuesArePlain(Checks checks) {
        dictionaryOf(checks, 16, 'p', 176);
    }

    static void promise10MissingIsOneOfTheDictionary(Checks checks) {
        encoded(checks, 'd', 33 + 32, null, 999, -999, null, 999, -999, null, 999, -999, null, 999, -999,
                null, 999, -999, null);
    }

    // ---- 10: offsets' "2 to the power of b is greater than the greatest base value minus the least one"

    /** Sixteen rows from the least value up to this far above it, as different as can be. */
    private static void offsetsUpTo(Checks checks, int difference, char kind, int bits) {
        for (int least : new int[] {-999, -3, 999 - difference}) {
            Integer[] values = new Integer[16];
            for (int i = 0; i < 16; i++) {
                values[i] = least + (difference < 15 ? i % (difference + 1) : i * difference / 15);
            }
            encoded(checks, kind, bits, values);
        }
    }

    static void promise10DifferenceOf1NeedsOneBit(Checks checks) {
        offsetsUpTo(checks, 1, 'o', 15 + 16);
    }

    static void promise10DifferenceOf2NeedsTwoBits(Checks checks) {
        offsetsUpTo(checks, 2, 'o', 15 + 32);
    }

    static void promise10DifferenceOf3NeedsTwoBits(Checks checks) {
        offsetsUpTo(checks, 3, 'o', 15 + 32);
    }

    static void promise10DifferenceOf4NeedsThreeBits(Checks checks) {
        offsetsUpTo(checks, 4, 'o', 15 + 48);
    }

    static void promise10DifferenceOf15NeedsFourBits(Checks checks) {
        offsetsUpTo(checks, 15, 'o', 15 + 64);
    }

    static void promise10DifferenceOf16NeedsFiveBits(Checks checks) {
        offsetsUpTo(checks, 16, 'o', 15 + 80);
    }

    static void promise10DifferenceOf255NeedsEightBits(Checks checks) {
        offsetsUpTo(checks, 255, 'o', 15 + 128);
    }

    static void promise10DifferenceOf256NeedsNineBits(Checks checks) {
        offsetsUpTo(checks, 256, 'o', 15 + 144);
    }

    static void promise10DifferenceOf512NeedsTenBits(Checks checks) {
        offsetsUpTo(checks, 512, 'o', 15 + 160);
    }

    static void promise10DifferenceOf1023IsStillLessThanPlain(Checks checks) {
        Integer[] values = new Integer[16];
        for (int i = 0; i < 16; i++) {
            values[i] = -500 + i * 1023 / 15;
        }
        encoded(checks, 'o', 15 + 160, values);
    }

    static void promise10DifferenceOf1024IsMoreThanPlain(Checks checks) {
        Integer[] values = new Integer[16];
        for (int i = 0; i < 16; i++) {
            values[i] = -500 + i * 1024 / 15;
        }
        encoded(checks, 'p', 176, values);
    }

    static void promise10GreatestDifferenceIsPlain(Checks checks) {
        Integer[] values = new Integer[16];
        for (int i = 0; i < 16; i++) {
            values[i] = -999 + i * 1998 / 15;
        }
        encoded(checks, 'p', 176, values);
    }

    // ---- 9: "if none is missing"

    static void promise09OneMissingValueForbidsOffsets(Checks checks) {
        Integer[] values = new Integer[16];
        for (int i = 0; i < 16; i++) {
            values[i] = i;
        }
        encoded(checks, 'o', 79, values);
        values[0] = null;
        encoded(checks, 'p', 176, values);
        values[0] = 0;
        values[15] = null;
        encoded(checks, 'p', 176, values);
    }

    // ---- 9: "those that were loaded, or those that its rows had when it was mended last"

    static void promise09SetsLieBesideUntilMended(Checks checks) {
        GranaryPartition store = Stores.loaded(16, 5, 0, 9);
        store.set(8, 0, 900);
        encoded(checks, store, 'd', 11);
        store.mend(0);
        encoded(checks, store, 'd', 38);
    }

    static void promise09ClearsLieBesideUntilMended(Checks checks) {
        GranaryPartition store = Stores.loaded(16, 5, 0, 9);
        store.clear(8, 0);
        encoded(checks, store, 'd', 11);
        store.mend(0);
        encoded(checks, store, 'd', 38);
    }

    static void promise09RemovalsLieBesideUntilMended(Checks checks) {
        GranaryPartition store = Stores.loaded(16, 5, 0, 9);
        store.remove(8);
        encoded(checks, store, 'd', 11);
        store.mend(0);
        encoded(checks, store, 'd', 38);
    }

    static void promise09RemovedRowsAreStillRowsOfTheChunk(Checks checks) {
        GranaryPartition store = Stores.loaded(2, 0, 8, 9);
        store.remove(0);
        store.remove(1);
        store.mend(0);
        // Two rows, both missing: a dictionary of one.
        encoded(checks, store, 'd', 11);
        checks.due("each column", 'd', () -> store.encoding(0, 3));
    }

    static void promise09MendingOneChunkLeavesTheOthers(Checks checks) {
        GranaryPartition store = Stores.loaded(32, 5, 0, 9);
        store.set(8, 0, 900);
        store.mend(1);
        encoded(checks, store, 'd', 11);
    }

    static void promise09RowsLoadedIntoAMendedChunkAreBaseValues(Checks checks) {
        GranaryPartition store = Stores.loaded(7, 5, 0, 9);
        store.set(0, 0, 900);
        store.mend(0);
        store.set(0, 0, 5);
        store.load(9, 5, 0, 9);
        // 900 is a base value still, and what was set since is not one: two runs.
        encoded(checks, store, 'r', 30);
    }

    // ---- 11: changes

    static void promise11RefusesChunkBelow0(Checks checks) {
        GranaryPartition store = Stores.rising(16);
        checks.index("-1", () -> store.changes(-1));
        checks.index("far below", () -> store.changes(Integer.MIN_VALUE));
    }

    static void promise11RefusesChunkBehindTheLast(Checks checks) {
        GranaryPartition store = Stores.rising(160);
        checks.due("9 is the last", 0, () -> store.changes(9));
        checks.index("10", () -> store.changes(10));
        checks.index("far above", () -> store.changes(Integer.MAX_VALUE));
    }

    static void promise11ALoadIsNone(Checks checks) {
        GranaryPartition store = Stores.rising(10);
        store.load(6, 0, 0, 1);
        checks.due("changes", 0, () -> store.changes(0));
    }

    static void promise11EachKindOfChangeIsOne(Checks checks) {
        GranaryPartition store = Stores.rising(16);
        store.set(0, 0, 5);
        checks.due("a set", 1, () -> store.changes(0));
        store.clear(0, 0);
        checks.due("a clear", 2, () -> store.changes(0));
        store.remove(0);
        checks.due("a removal", 3, () -> store.changes(0));
    }

    static void promise11RefusedOnesAreNone(Checks checks) {
        GranaryPartition store = Stores.rising(16);
        store.remove(0);
        checks.state("set", () -> store.set(0, 0, 5));
        checks.state("clear", () -> store.clear(0, 0));
        checks.state("remove", () -> store.remove(0));
        checks.argument("value", () -> store.set(1, 0, 1000));
        checks.due("changes", 1, () -> store.changes(0));
    }

    static void promise11CountsRows15And16Apart(Checks checks) {
        GranaryPartition store = Stores.rising(32);
        store.set(15, 0, 5);
        store.remove(16);
        store.clear(17, 0);
        checks.due("chunk 0", 1, () -> store.changes(0));
        checks.due("chunk 1", 2, () -> store.changes(1));
    }

    static void promise11MendedChunkHasNone(Checks checks) {
        GranaryPartition store = Stores.rising(32);
        store.set(0, 0, 5);
        store.set(16, 0, 5);
        store.mend(0);
        checks.due("mended", 0, () -> store.changes(0));
        checks.due("not mended", 1, () -> store.changes(1));
        store.clear(0, 0);
        checks.due("since then", 1, () -> store.changes(0));
    }

    static void promise11CountsManyOfOneValue(Checks checks) {
        GranaryPartition store = Stores.rising(1);
        for (int i = 0; i < 500; i++) {
            store.set(0, 0, 7);
        }
        checks.due("changes", 500, () -> store.changes(0));
    }

    // ---- 12 and 13: exceptions

    static void promise12RefusesChunkBelow0(Checks checks) {
        GranaryPartition store = Stores.rising(16);
        checks.index("-1", () -> store.least(-1, 0));
        checks.index("far below", () -> store.least(Integer.MIN_VALUE, 0));
    }

    static void promise12RefusesChunkBehindTheLast(Checks checks) {
        GranaryPartition store = Stores.rising(160);
        checks.due("9 is the last", 144, () -> store.least(9, 0));
        checks.index("10", () -> store.least(10, 0));
        checks.index("far above", () -> store.least(Integer.MAX_VALUE, 0));
    }

    static void promise12RefusesColumnBelow0(Checks checks) {
        GranaryPartition store = Stores.rising(16);
        checks.index("-1", () -> store.least(0, -1));
        checks.index("far below", () -> store.least(0, Integer.MIN_VALUE));
    }

    static void promise12RefusesColumn4(Checks checks) {
        GranaryPartition store = Stores.rising(16);
        checks.due("3 is one", 0, () -> store.least(0, 3));
        checks.index("4", () -> store.least(0, 4));
        checks.index("far above", () -> store.least(0, Integer.MAX_VALUE));
    }

    static void promise13RefusesChunkBelow0(Checks checks) {
        GranaryPartition store = Stores.rising(16);
        checks.index("-1", () -> store.greatest(-1, 0));
        checks.index("far below", () -> store.greatest(Integer.MIN_VALUE, 0));
    }

    static void promise13RefusesChunkBehindTheLast(Checks checks) {
        GranaryPartition store = Stores.rising(160);
        checks.due("9 is the last", 159, () -> store.greatest(9, 0));
        checks.index("10", () -> store.greatest(10, 0));
        checks.index("far above", () -> store.greatest(Integer.MAX_VALUE, 0));
    }

    static void promise13RefusesColumnBelow0(Checks checks) {
        GranaryPartition store = Stores.rising(16);
        checks.index("-1", () -> store.greatest(0, -1));
        checks.index("far below", () -> store.greatest(0, Integer.MIN_VALUE));
    }

    static void promise13RefusesColumn4(Checks checks) {
        GranaryPartition store = Stores.rising(16);
        checks.due("3 is one", 2, () -> store.greatest(0, 3));
        checks.index("4", () -> store.greatest(0, 4));
        checks.index("far above", () -> store.greatest(0, Integer.MAX_VALUE));
    }

    // ---- 12 and 13: "a least and a greatest number are kept, or none"

    private static void bounded(Checks checks, GranaryPartition store, int least, int greatest) {
        checks.due("least", least, () -> store.least(0, 0));
        checks.due("greatest", greatest, () -> store.greatest(0, 0));
    }

    private static void unbounded(Checks checks, GranaryPartition store) {
        checks.element("least", () -> store.least(0, 0));
        checks.element("greatest", () -> store.greatest(0, 0));
    }

    static void promise12OneRowIsBothBounds(Checks checks) {
        bounded(checks, Stores.loaded(1, 7, 0, 9), 7, 7);
    }

    static void promise12LeastValueOfAllIsABound(Checks checks) {
        bounded(checks, Stores.ofBase(-999, -999), -999, -999);
    }

    static void promise13GreatestValueOfAllIsABound(Checks checks) {
        bounded(checks, Stores.ofBase(999, 999), 999, 999);
    }

    static void promise12AllMissingHasNone(Checks checks) {
        unbounded(checks, Stores.ofBase(null, null));
    }

    static void promise12ClearedOnesCountUntilMended(Checks checks) {
        GranaryPartition store = Stores.loaded(1, 7, 0, 9);
        store.clear(0, 0);
        bounded(checks, store, 7, 7);
        store.mend(0);
        unbounded(checks, store);
    }

    static void promise12RemovedRowsCountUntilMended(Checks checks) {
        GranaryPartition store = Stores.loaded(2, 7, 1, 9);
        store.remove(0);
        store.remove(1);
        bounded(checks, store, 7, 8);
        store.mend(0);
        unbounded(checks, store);
    }

    static void promise12OneValueSetIsBothBoundsAgain(Checks checks) {
        GranaryPartition store = Stores.ofBase(null, null);
        store.set(1, 0, -5);
        bounded(checks, store, -5, -5);
    }

    static void promise12LoadedRowsBoundAChunkThatHadNone(Checks checks) {
        GranaryPartition store = Stores.loaded(2, 7, 1, 9);
        store.remove(0);
        store.remove(1);
        store.mend(0);
        store.load(1, 3, 0, 9);
        bounded(checks, store, 3, 3);
    }

    static void promise12IndexComesAheadOfNone(Checks checks) {
        GranaryPartition store = Stores.ofBase(null, null);
        checks.index("chunk", () -> store.least(1, 0));
        checks.index("column", () -> store.least(0, 4));
    }

    static void promise13IndexComesAheadOfNone(Checks checks) {
        GranaryPartition store = Stores.ofBase(null, null);
        checks.index("chunk", () -> store.greatest(1, 0));
        checks.index("column", () -> store.greatest(0, 4));
    }

    static void promise12AnotherColumnHasItsOwn(Checks checks) {
        GranaryPartition store = Stores.ofBase(null, null);
        checks.due("column 1", 0, () -> store.least(0, 1));
        store.set(0, 0, 500);
        checks.due("column 1", 0, () -> store.greatest(0, 1));
    }

    // ---- 12 and 13: "and of all that were set in it since it was mended last, or ever"

    static void promise12SetBetweenTheBoundsChangesNone(Checks checks) {
        GranaryPartition store = Stores.loaded(2, 5, 3, 9);
        store.set(0, 0, 6);
        bounded(checks, store, 5, 8);
    }

    static void promise12SetAtTheBoundsChangesNone(Checks checks) {
        GranaryPartition store = Stores.loaded(2, 5, 3, 9);
        store.set(0, 0, 8);
        store.set(1, 0, 5);
        bounded(checks, store, 5, 8);
    }

    static void promise12SetOneBelowChangesTheLeast(Checks checks) {
        GranaryPartition store = Stores.loaded(2, 5, 3, 9);
        store.set(1, 0, 4);
        bounded(checks, store, 4, 8);
    }

    static void promise13SetOneAboveChangesTheGreatest(Checks checks) {
        GranaryPartition store = Stores.loaded(2, 5, 3, 9);
        store.set(0, 0, 9);
        bounded(checks, store, 5, 9);
    }

    static void promise12SetToTheLeastOfAll(Checks checks) {
        GranaryPartition store = Stores.loaded(2, 5, 3, 9);
        store.set(0, 0, -999);
        bounded(checks, store, -999, 8);
    }

    static void promise13SetToTheGreatestOfAll(Checks checks) {
        GranaryPartition store = Stores.loaded(2, 5, 3, 9);
        store.set(0, 0, 999);
        bounded(checks, store, 5, 999);
    }

    static void promise12WhatWasSetOverStillCounts(Checks checks) {
        GranaryPartition store = Stores.loaded(2, 5, 3, 9);
        store.set(0, 0, -50);
        store.set(0, 0, 50);
        store.set(0, 0, 5);
        bounded(checks, store, -50, 50);
    }

    static void promise12WhatWasSetAndRemovedCountsUntilMended(Checks checks) {
        GranaryPartition store = Stores.loaded(2, 5, 3, 9);
        store.set(0, 0, -50);
        store.remove(0);
        bounded(checks, store, -50, 8);
        store.mend(0);
        bounded(checks, store, 8, 8);
    }

    static void promise12WhatWasSetAndClearedCountsUntilMended(Checks checks) {
        GranaryPartition store = Stores.loaded(2, 5, 3, 9);
        store.set(0, 0, -50);
        store.clear(0, 0);
        bounded(checks, store, -50, 8);
        store.mend(0);
        bounded(checks, store, 8, 8);
    }

    static void promise12RefusedSetChangesNone(Checks checks) {
        GranaryPartition store = Stores.loaded(2, 5, 3, 9);
        store.remove(1);
        checks.state("removed", () -> store.set(1, 0, -500));
        checks.argument("value", () -> store.set(0, 0, 1000));
        bounded(checks, store, 5, 8);
    }

    static void promise13LoadedRowsOfTheChunkCount(Checks checks) {
        GranaryPartition store = Stores.loaded(15, 5, 0, 9);
        store.load(2, 700, 1, 999);
        bounded(checks, store, 5, 700);
        checks.due("the next chunk", 701, () -> store.least(1, 0));
    }

    // ---- 14: "whether one may be missing: if a base value is, or one was cleared since then"

    private static void mayMiss(Checks checks, GranaryPartition store, boolean due) {
        checks.due("mayMiss", due, () -> store.mayMiss(0, 0));
    }

    static void promise14RefusesChunkBelow0(Checks checks) {
        GranaryPartition store = Stores.rising(16);
        checks.index("-1", () -> store.mayMiss(-1, 0));
        checks.index("far below", () -> store.mayMiss(Integer.MIN_VALUE, 0));
    }

    static void promise14RefusesChunkBehindTheLast(Checks checks) {
        GranaryPartition store = Stores.rising(160);
        checks.due("9 is the last", false, () -> store.mayMiss(9, 0));
        checks.index("10", () -> store.mayMiss(10, 0));
        checks.index("far above", () -> store.mayMiss(Integer.MAX_VALUE, 0));
    }

    static void promise14RefusesColumnBelow0(Checks checks) {
        GranaryPartition store = Stores.rising(16);
        checks.index("-1", () -> store.mayMiss(0, -1));
        checks.index("far below", () -> store.mayMiss(0, Integer.MIN_VALUE));
    }

    static void promise14RefusesColumn4(Checks checks) {
        GranaryPartition store = Stores.rising(16);
        checks.due("3 is one", false, () -> store.mayMiss(0, 3));
        checks.index("4", () -> store.mayMiss(0, 4));
        checks.index("far above", () -> store.mayMiss(0, Integer.MAX_VALUE));
    }

    static void promise14LoadedRowsMissNone(Checks checks) {
        mayMiss(checks, Stores.rising(16), false);
    }

    static void promise14OneMissingBaseValueIsEnough(Checks checks) {
        mayMiss(checks, Stores.ofBase(1, 2, 3, null), true);
        mayMiss(checks, Stores.ofBase(null, 2, 3, 4), true);
    }

    static void promise14ClearedAndSetAgainStaysUntilMended(Checks checks) {
        GranaryPartition store = Stores.ofBase(1, 2);
        store.clear(0, 0);
        store.set(0, 0, 1);
        mayMiss(checks, store, true);
        store.mend(0);
        mayMiss(checks, store, false);
    }

    static void promise14ClearedAndRemovedStaysUntilMended(Checks checks) {
        GranaryPartition store = Stores.ofBase(1, 2);
        store.clear(0, 0);
        store.remove(0);
        mayMiss(checks, store, true);
        store.mend(0);
        mayMiss(checks, store, false);
    }

    static void promise14RemovedRowIsNotAMissingValue(Checks checks) {
        GranaryPartition store = Stores.ofBase(1, 2);
        store.remove(0);
        mayMiss(checks, store, false);
        store.mend(0);
        mayMiss(checks, store, false);
    }

    static void promise14NoRowThatCountsMissesNone(Checks checks) {
        GranaryPartition store = Stores.ofBase(null, null);
        store.remove(0);
        store.remove(1);
        mayMiss(checks, store, true);
        store.mend(0);
        mayMiss(checks, store, false);
    }

    static void promise14SetOfTheMissingOneLeavesItUntilMended(Checks checks) {
        GranaryPartition store = Stores.ofBase(1, null);
        store.set(1, 0, 5);
        mayMiss(checks, store, true);
        store.mend(0);
        mayMiss(checks, store, false);
    }

    static void promise14RefusedClearIsNone(Checks checks) {
        GranaryPartition store = Stores.ofBase(1, 2);
        store.remove(0);
        checks.state("removed", () -> store.clear(0, 0));
        mayMiss(checks, store, false);
    }

    static void promise14AnotherColumnHasItsOwn(Checks checks) {
        GranaryPartition store = Stores.ofBase(1, 2);
        store.clear(0, 1);
        mayMiss(checks, store, false);
        checks.due("column 1", true, () -> store.mayMiss(0, 1));
    }

    // ---- 15: mend

    static void promise15RefusesChunkBelow0(Checks checks) {
        GranaryPartition store = Stores.rising(16);
        checks.index("-1", () -> store.mend(-1));
        checks.index("far below", () -> store.mend(Integer.MIN_VALUE));
    }

    static void promise15RefusesChunkBehindTheLast(Checks checks) {
        GranaryPartition store = Stores.rising(160);
        checks.due("9 is the last", 0, () -> store.mend(9));
        checks.index("10", () -> store.mend(10));
        checks.index("far above", () -> store.mend(Integer.MAX_VALUE));
    }

    static void promise15NothingLayBeside(Checks checks) {
        GranaryPartition store = Stores.rising(16);
        checks.due("mend", 0, () -> store.mend(0));
    }

    static void promise15ReturnsWhatLayBesideOnce(Checks checks) {
        GranaryPartition store = Stores.rising(16);
        store.set(0, 0, 5);
        store.clear(0, 0);
        store.remove(0);
        checks.due("three", 3, () -> store.mend(0));
        checks.due("none any more", 0, () -> store.mend(0));
    }

    static void promise15RefusesWhileAScanIsOpen(Checks checks) {
        GranaryPartition store = Stores.rising(32);
        store.open(0, -1, 0, 1);
        checks.state("chunk 0", () -> store.mend(0));
        store.read(1);
        checks.state("a chunk that it has looked at", () -> store.mend(0));
        store.read(1);
        checks.due("it is done", 0, () -> store.mend(0));
    }

    static void promise15RefusesWhileAScanOfOtherChunksIsOpen(Checks checks) {
        GranaryPartition store = Stores.rising(16);
        store.open(0, -1, 0, 1);
        store.load(1, 0, 0, 1);
        checks.state("a chunk that is not of it", () -> store.mend(1));
    }

    static void promise15RefusesWhileOneOfSeveralScansIsOpen(Checks checks) {
        GranaryPartition store = Stores.rising(32);
        store.open(0, -1, 0, 1);
        store.read(1);
        store.open(0, -1, 0, 1);
        store.read(1);
        checks.due("the first one is done", true, () -> store.isDone(0));
        checks.state("the second one is open", () -> store.mend(0));
    }

    static void promise15IndexComesAheadOfAnOpenScan(Checks checks) {
        GranaryPartition store = Stores.rising(16);
        store.open(0, -1, 0, 1);
        checks.index("chunk", () -> store.mend(1));
        checks.index("chunk", () -> store.mend(-1));
    }

    static void promise15ScanThatWasDoneAtOnceDoesNotHinder(Checks checks) {
        GranaryPartition store = Stores.rising(0);
        store.compare('m', 0, 0);
        store.open(0, -1, 0, 1);
        store.load(1, 0, 0, 1);
        checks.due("mend", 0, () -> store.mend(0));
    }

    static void promise15RefusedMendingChangesNothing(Checks checks) {
        GranaryPartition store = Stores.loaded(2, 5, 3, 9);
        store.compare('>', 0, -999);
        store.set(0, 0, 900);
        store.set(0, 0, 5);
        store.open(0, -1, 0, 1);
        checks.state("a scan is open", () -> store.mend(0));
        checks.due("changes", 2, () -> store.changes(0));
        bounded(checks, store, 5, 900);
    }

    static void promise15ValuesStayAsTheyAre(Checks checks) {
        GranaryPartition store = Stores.rising(16);
        store.set(0, 0, 500);
        store.clear(1, 0);
        store.remove(2);
        store.mend(0);
        checks.due("set", 500, () -> store.valueAt(0, 0));
        checks.element("cleared", () -> store.valueAt(1, 0));
        checks.element("removed", () -> store.valueAt(2, 0));
        checks.due("alive", 14, () -> store.remove(3));
    }

    static void promise15MendsAChunkThatIsNotFull(Checks checks) {
        GranaryPartition store = Stores.rising(17);
        store.set(16, 0, 500);
        checks.due("mend", 1, () -> store.mend(1));
        checks.due("least", 500, () -> store.least(1, 0));
        checks.due("bits", 11, () -> store.bits(1, 0));
    }

    static void promise15LeavesTheOtherChunks(Checks checks) {
        GranaryPartition store = Stores.rising(32);
        store.set(15, 0, 500);
        store.set(15, 0, 15);
        store.set(16, 0, 500);
        store.set(16, 0, 16);
        store.mend(0);
        checks.due("changes", 2, () -> store.changes(1));
        checks.due("bounds", 500, () -> store.greatest(1, 0));
        checks.due("its own bounds", 15, () -> store.greatest(0, 0));
    }
}
