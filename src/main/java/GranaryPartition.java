import java.util.ArrayList;
import java.util.List;
import java.util.NoSuchElementException;

/** A store of columns; ../shared/DOC.md says what each call promises. */
public final class GranaryPartition {
    private static final int COLUMNS = 4;
    private static final int CHUNK_ROWS = 16;
    private static final int MOST_ROWS = 160;
    private static final int MOST_LOADED = 40;
    private static final int MOST_FILTERS = 30;
    private static final int MOST_COMPARISONS = 12;
    private static final int MOST_SCANS = 40;
    private static final int MOST_OPEN = 4;
    private static final int MOST_GRANT = 6;
    private static final int MOST_STEPS = 40;
    private static final int KEPT_RESULTS = 3;
    private static final int GREATEST_VALUE = 999;
    private static final int GREATEST_STEP = 99;

    // Below every value, so that the group of the missing key comes ahead of all others.
    private static final int MISSING = -1000;
    private static final int MISSING_AS_KEY = 1000;
    private static final int NO_KEY = -1;

    // What a filter can be is a set of these. A row is a set of one, so one logic serves rows and bounds.
    private static final int TRUE = 1;
    private static final int FALSE = 2;
    private static final int UNKNOWN = 4;

    private final Rows rows = new Rows(MOST_ROWS);
    private final List<Chunk> chunks = new ArrayList<Chunk>();
    private final Filters filters = new Filters();
    private final List<Scan> scans = new ArrayList<Scan>();
    // Made once and used again, because isSound may be asked at every call.
    private final Groups recounted = new Groups(MOST_ROWS);
    // The moments of the last writes, against which the moment of a scan tells whether its result is kept.
    private final int[] columnWritten = new int[COLUMNS];
    private int rowsWritten;
    private int moment;
    private int position;
    private long chunksRead;
    private int scansDone;

    public GranaryPartition() {
    }

    // ---- rows

    public int load(int many, int first, int step, int turn)
            throws IllegalArgumentException, IllegalStateException {
        if (many < 1 || many > MOST_LOADED || !isValue(first) || step < -GREATEST_STEP
                || step > GREATEST_STEP || turn < 1 || turn > GREATEST_VALUE) {
            throw new IllegalArgumentException();
        }
        if (rows.count + many > MOST_ROWS) {
            throw new IllegalStateException();
        }
        for (int i = 0; i < many; i++) {
            int number = Math.floorMod(first + i * step, turn);
            rows.append(number, number * number % 37, i / 4, number % 3);
            placeInChunk(rows.count - 1);
        }
        moment++;
        rowsWritten = moment;
        return rows.count;
    }

    public boolean set(int row, int column, int value)
            throws IndexOutOfBoundsException, IllegalArgumentException, IllegalStateException {
        Chunk chunk = chunkOfCell(row, column);
        if (!isValue(value)) {
            throw new IllegalArgumentException();
        }
        return write(chunk, row, column, value);
    }

    public boolean clear(int row, int column) throws IndexOutOfBoundsException, IllegalStateException {
        return write(chunkOfCell(row, column), row, column, MISSING);
    }

    public int remove(int row) throws IndexOutOfBoundsException, IllegalStateException {
        Chunk chunk = chunkOfCell(row, 0);
        if (!rows.isAlive(row)) {
            throw new IllegalStateException();
        }
        rows.kill(row);
        chunk.beside++;
        moment++;
        rowsWritten = moment;
        return rows.living;
    }

    public int valueAt(int row, int column) throws IndexOutOfBoundsException, NoSuchElementException {
        if (!rows.isThere(row) || !isColumn(column)) {
            throw new IndexOutOfBoundsException();
        }
        int value = rows.valueOf(row, column);
        if (!rows.isAlive(row) || value == MISSING) {
            throw new NoSuchElementException();
        }
        return value;
    }

    public int moment() {
        return moment;
    }

    // ---- chunks

    public int chunks() {
        return chunks.size();
    }

    public char encoding(int chunk, int column) throws IndexOutOfBoundsException {
        return chunkWithColumn(chunk, column).code(column);
    }

    public int bits(int chunk, int column) throws IndexOutOfBoundsException {
        return chunkWithColumn(chunk, column).leastCost(column);
    }

    public int changes(int chunk) throws IndexOutOfBoundsException {
        return chunkNumbered(chunk).beside;
    }

    public int least(int chunk, int column) throws IndexOutOfBoundsException, NoSuchElementException {
        return boundsWithNumbers(chunk, column).leastOf(column);
    }

    public int greatest(int chunk, int column) throws IndexOutOfBoundsException, NoSuchElementException {
        return boundsWithNumbers(chunk, column).greatestOf(column);
    }

    public boolean mayMiss(int chunk, int column) throws IndexOutOfBoundsException {
        return chunkWithColumn(chunk, column).bounds.canMiss(column);
    }

    public int mend(int chunk) throws IndexOutOfBoundsException, IllegalStateException {
        Chunk worn = chunkNumbered(chunk);
        if (scansOpen() > 0) {
            throw new IllegalStateException();
        }
        return worn.renew(rows);
    }

    // ---- filters

    public int compare(char kind, int column, int number)
            throws IllegalArgumentException, IllegalStateException {
        if (kind != '<' && kind != '=' && kind != '>' && kind != 'm') {
            throw new IllegalArgumentException();
        }
        if (!isColumn(column) || kind != 'm' && !isValue(number)) {
            throw new IllegalArgumentException();
        }
        if (filters.count() >= MOST_FILTERS) {
            throw new IllegalStateException();
        }
        return filters.add(new Filter(kind, column, number, filters.count()));
    }

    public int join(char kind, int first, int second)
            throws IllegalArgumentException, NoSuchElementException, IllegalStateException {
        if (kind != 'a' && kind != 'o' && kind != 'n') {
            throw new IllegalArgumentException();
        }
        // The second number of 'n' has no meaning: it is taken as the first one, which is looked at anyway.
        int other = kind == 'n' ? first : second;
        if (!filters.has(first) || !filters.has(other)) {
            throw new NoSuchElementException();
        }
        int comparisons = filters.comparisonsOf(first);
        if (kind != 'n') {
            comparisons += filters.comparisonsOf(other);
        }
        if (filters.count() >= MOST_FILTERS || comparisons > MOST_COMPARISONS) {
            throw new IllegalStateException();
        }
        return filters.addJoined(kind, first, other, comparisons);
    }

    public int canBe(int filter, int chunk) throws NoSuchElementException, IndexOutOfBoundsException {
        checkFilter(filter);
        return filters.outcomes(filter, chunkNumbered(chunk).bounds);
    }

    // ---- scans

    public int open(int filter, int key, int measure, int grant)
            throws NoSuchElementException, IllegalArgumentException, IllegalStateException {
        checkFilter(filter);
        if (key != NO_KEY && !isColumn(key) || !isColumn(measure) || grant < 1 || grant > MOST_GRANT) {
            throw new IllegalArgumentException();
        }
        if (scansOpen() >= MOST_OPEN || scans.size() >= MOST_SCANS) {
            throw new IllegalStateException();
        }
        Scan scan = new Scan(filter, key, measure, grant, moment, chunks.size(), rows);
        scans.add(scan);
        if (scan.hasLookedAtAll()) {
            finish(scan);
        }
        return scans.size() - 1;
    }

    public int read(int steps) throws IllegalArgumentException {
        if (steps < 1 || steps > MOST_STEPS) {
            throw new IllegalArgumentException();
        }
        for (int done = 0; done < steps; done++) {
            if (scansOpen() == 0) {
                return done;
            }
            step();
        }
        return steps;
    }

    public int takeBack(int scan, int grant) throws NoSuchElementException, IllegalArgumentException {
        Scan asked = scanNumbered(scan);
        if (asked.isFinished()) {
            throw new NoSuchElementException();
        }
        if (grant < 1 || grant >= asked.parts.grant) {
            throw new IllegalArgumentException();
        }
        return asked.parts.lower(grant);
    }

    public boolean isDone(int scan) throws NoSuchElementException {
        return scanNumbered(scan).isFinished();
    }

    public int position() {
        return position;
    }

    public long chunksRead() {
        return chunksRead;
    }

    public int skipped(int scan) throws NoSuchElementException {
        return scanNumbered(scan).skips;
    }

    public int spilled(int scan) throws NoSuchElementException {
        return scanNumbered(scan).parts.spills;
    }

    public int aside(int scan) throws NoSuchElementException {
        return scanNumbered(scan).parts.rowsAside;
    }

    // ---- results

    public int groups(int scan) throws NoSuchElementException, IllegalStateException {
        return resultOf(scan).size;
    }

    public int keyAt(int scan, int index)
            throws NoSuchElementException, IllegalStateException, IndexOutOfBoundsException {
        int key = resultWithGroup(scan, index).cell(index, Groups.KEY);
        return key == MISSING ? MISSING_AS_KEY : key;
    }

    public int total(int scan, int index, int what) throws NoSuchElementException, IllegalStateException,
            IndexOutOfBoundsException, IllegalArgumentException {
        Groups result = resultWithGroup(scan, index);
        if (what < 0 || what > 2) {
            throw new IllegalArgumentException();
        }
        return result.cell(index, Groups.COUNT + what);
    }

    public int edge(int scan, int index, boolean isGreatest) throws NoSuchElementException,
            IllegalStateException, IndexOutOfBoundsException, UnsupportedOperationException {
        Groups result = resultWithGroup(scan, index);
        if (result.cell(index, Groups.MEASURED) == 0) {
            throw new UnsupportedOperationException();
        }
        return result.cell(index, isGreatest ? Groups.GREATEST : Groups.LEAST);
    }

    public boolean isKept(int scan) throws NoSuchElementException {
        return keepsResult(scanNumbered(scan));
    }

    public int keptFor(int filter, int key, int measure) throws NoSuchElementException {
        for (int i = scans.size() - 1; i >= 0; i--) {
            Scan scan = scans.get(i);
            if (scan.filter == filter && scan.key == key && scan.measure == measure && keepsResult(scan)) {
                return i;
            }
        }
        throw new NoSuchElementException();
    }

    // ---- sums and figures

    public int sum(int filter, int measure) throws NoSuchElementException, IllegalArgumentException {
        checkFilterAndMeasure(filter, measure);
        int sum = 0;
        for (int row = 0; row < rows.count; row++) {
            int value = rows.valueOf(row, measure);
            if (value != MISSING && rows.isAlive(row) && filters.chooses(filter, rows, row)) {
                sum += value;
            }
        }
        return sum;
    }

    public int bound(int filter, int measure, boolean isAbove)
            throws NoSuchElementException, IllegalArgumentException {
        checkFilterAndMeasure(filter, measure);
        int sum = 0;
        for (int i = 0; i < chunks.size(); i++) {
            sum += boundWithin(chunks.get(i), filter, measure, isAbove);
        }
        return sum;
    }

    public double meanBits() throws ArithmeticException {
        if (rows.count == 0) {
            throw new ArithmeticException();
        }
        int sum = 0;
        for (int i = 0; i < chunks.size(); i++) {
            for (int column = 0; column < COLUMNS; column++) {
                sum += chunks.get(i).leastCost(column);
            }
        }
        return (double) sum / (double) (COLUMNS * rows.count);
    }

    public float skippedShare() throws ArithmeticException {
        int looks = 0;
        int skips = 0;
        for (int i = 0; i < scans.size(); i++) {
            looks += scans.get(i).looks();
            skips += scans.get(i).skips;
        }
        if (looks == 0) {
            throw new ArithmeticException();
        }
        return (float) skips / (float) looks;
    }

    public boolean isSound() {
        return keptResultsHold() && valuesLieWithinBounds();
    }

    // ---- what the calls share

    private static boolean isColumn(int column) {
        return column >= 0 && column < COLUMNS;
    }

    private static boolean isValue(int value) {
        return value >= -GREATEST_VALUE && value <= GREATEST_VALUE;
    }

    private Chunk chunkNumbered(int chunk) throws IndexOutOfBoundsException {
        if (chunk < 0 || chunk >= chunks.size()) {
            throw new IndexOutOfBoundsException();
        }
        return chunks.get(chunk);
    }

    private Chunk chunkWithColumn(int chunk, int column) throws IndexOutOfBoundsException {
        if (!isColumn(column)) {
            throw new IndexOutOfBoundsException();
        }
        return chunkNumbered(chunk);
    }

    private Chunk chunkOfCell(int row, int column) throws IndexOutOfBoundsException {
        if (!rows.isThere(row)) {
            throw new IndexOutOfBoundsException();
        }
        return chunkWithColumn(row / CHUNK_ROWS, column);
    }

    private Bounds boundsWithNumbers(int chunk, int column)
            throws IndexOutOfBoundsException, NoSuchElementException {
        Bounds bounds = chunkWithColumn(chunk, column).bounds;
        if (!bounds.hasNumbers(column)) {
            throw new NoSuchElementException();
        }
        return bounds;
    }

    private void checkFilter(int filter) throws NoSuchElementException {
        if (!filters.has(filter)) {
            throw new NoSuchElementException();
        }
    }

    private void checkFilterAndMeasure(int filter, int measure)
            throws NoSuchElementException, IllegalArgumentException {
        checkFilter(filter);
        if (!isColumn(measure)) {
            throw new IllegalArgumentException();
        }
    }

    private Scan scanNumbered(int scan) throws NoSuchElementException {
        if (scan < 0 || scan >= scans.size()) {
            throw new NoSuchElementException();
        }
        return scans.get(scan);
    }

    private Groups resultOf(int scan) throws NoSuchElementException, IllegalStateException {
        Scan asked = scanNumbered(scan);
        if (!asked.isFinished()) {
            throw new IllegalStateException();
        }
        return asked.groups;
    }

    private Groups resultWithGroup(int scan, int index)
            throws NoSuchElementException, IllegalStateException, IndexOutOfBoundsException {
        Groups result = resultOf(scan);
        if (index < 0 || index >= result.size) {
            throw new IndexOutOfBoundsException();
        }
        return result;
    }

    private void placeInChunk(int row) {
        int number = row / CHUNK_ROWS;
        if (number == chunks.size()) {
            chunks.add(new Chunk(row));
        }
        if (number >= 0 && number < chunks.size()) {
            chunks.get(number).append(rows, row);
        }
    }

    private boolean write(Chunk chunk, int row, int column, int value) throws IllegalStateException {
        if (!rows.isAlive(row)) {
            throw new IllegalStateException();
        }
        boolean wasMissing = rows.valueOf(row, column) == MISSING;
        rows.put(row, column, value);
        chunk.bounds.admit(column, value);
        chunk.beside++;
        moment++;
        if (isColumn(column)) {
            columnWritten[column] = moment;
        }
        return wasMissing;
    }

    private int scansOpen() {
        int open = 0;
        for (int i = 0; i < scans.size(); i++) {
            if (!scans.get(i).isFinished()) {
                open++;
            }
        }
        return open;
    }

    private void step() {
        if (position < 0 || position >= chunks.size()) {
            return;
        }
        Chunk chunk = chunks.get(position);
        boolean isRead = false;
        for (int i = 0; i < scans.size(); i++) {
            Scan scan = scans.get(i);
            if (scan.hasToLookAt(position)) {
                if (scan.look(position, chunk, filters)) {
                    isRead = true;
                }
                if (scan.hasLookedAtAll()) {
                    finish(scan);
                }
            }
        }
        if (isRead) {
            chunksRead++;
        }
        position = position + 1 < chunks.size() ? position + 1 : 0;
    }

    private void finish(Scan scan) {
        scan.place = scansDone;
        scansDone++;
    }

    private boolean keepsResult(Scan scan) {
        if (!scan.isFinished() || rowsWritten > scan.moment) {
            return false;
        }
        int doneBehind = scansDone - scan.place - 1;
        if (doneBehind >= KEPT_RESULTS) {
            return false;
        }
        int columns = scan.columns() | filters.columnsOf(scan.filter);
        for (int column = 0; column < COLUMNS; column++) {
            if ((columns >> column & 1) != 0 && columnWritten[column] > scan.moment) {
                return false;
            }
        }
        return true;
    }

    private int boundWithin(Chunk chunk, int filter, int measure, boolean isAbove) {
        Bounds bounds = chunk.bounds;
        int outcomes = filters.outcomes(filter, bounds);
        if ((outcomes & TRUE) == 0 || !bounds.hasNumbers(measure)) {
            return 0;
        }
        int each = isAbove ? bounds.greatestOf(measure) : bounds.leastOf(measure);
        boolean allCount = outcomes == TRUE && !bounds.canMiss(measure);
        if (!allCount) {
            each = isAbove ? Math.max(each, 0) : Math.min(each, 0);
        }
        return each * rows.livingFrom(chunk.start, CHUNK_ROWS);
    }

    private boolean keptResultsHold() {
        for (int i = 0; i < scans.size(); i++) {
            Scan scan = scans.get(i);
            if (keepsResult(scan)) {
                recount(scan);
                if (!scan.groups.isLike(recounted)) {
                    return false;
                }
            }
        }
        return true;
    }

    private void recount(Scan scan) {
        recounted.restart();
        for (int row = 0; row < rows.count; row++) {
            if (rows.isAlive(row) && filters.chooses(scan.filter, rows, row)) {
                recounted.take(scan.keyIn(rows, row), rows.valueOf(row, scan.measure));
            }
        }
    }

    private boolean valuesLieWithinBounds() {
        for (int row = 0; row < rows.count; row++) {
            int number = row / CHUNK_ROWS;
            if (number >= chunks.size() || rows.isAlive(row) && !liesWithin(row, chunks.get(number).bounds)) {
                return false;
            }
        }
        return true;
    }

    private boolean liesWithin(int row, Bounds bounds) {
        for (int column = 0; column < COLUMNS; column++) {
            int value = rows.valueOf(row, column);
            if (value != MISSING && (value < bounds.leastOf(column) || value > bounds.greatestOf(column))) {
                return false;
            }
        }
        return true;
    }

    /** The rows as they are at one moment. */
    private static final class Rows {
        private final int[] values;
        private final boolean[] alive;
        private int count;
        private int living;

        Rows(int room) {
            int length = room > 0 ? room : 0;
            values = new int[length * COLUMNS];
            alive = new boolean[length];
        }

        Rows asTheyAre() {
            Rows copy = new Rows(count);
            for (int i = 0; i < copy.values.length && i < values.length; i++) {
                copy.values[i] = values[i];
            }
            for (int i = 0; i < copy.alive.length && i < alive.length; i++) {
                copy.alive[i] = alive[i];
            }
            copy.count = count;
            copy.living = living;
            return copy;
        }

        boolean isThere(int row) {
            return row >= 0 && row < count;
        }

        boolean isAlive(int row) {
            return row >= 0 && row < alive.length && alive[row];
        }

        void append(int zeroth, int first, int second, int third) {
            if (count < 0 || count >= alive.length) {
                return;
            }
            alive[count] = true;
            count++;
            living++;
            put(count - 1, 0, zeroth);
            put(count - 1, 1, first);
            put(count - 1, 2, second);
            put(count - 1, 3, third);
        }

        int valueOf(int row, int column) {
            int cell = row * COLUMNS + column;
            return isThere(row) && isColumn(column) && cell < values.length ? values[cell] : MISSING;
        }

        void put(int row, int column, int value) {
            int cell = row * COLUMNS + column;
            if (isThere(row) && isColumn(column) && cell < values.length) {
                values[cell] = value;
            }
        }

        void kill(int row) {
            if (isAlive(row)) {
                alive[row] = false;
                living--;
            }
        }

        int livingFrom(int start, int many) {
            int found = 0;
            for (int i = 0; i < many; i++) {
                if (isAlive(start + i)) {
                    found++;
                }
            }
            return found;
        }
    }

    /** What is kept of each of the columns: the least and the greatest number, and whether one may be missing. */
    private static final class Bounds {
        private final int[] leasts = new int[COLUMNS];
        private final int[] greatests = new int[COLUMNS];
        private final boolean[] misses = new boolean[COLUMNS];

        Bounds() {
            forget();
        }

        void forget() {
            for (int column = 0; column < COLUMNS; column++) {
                forgetColumn(column);
            }
        }

        private void forgetColumn(int column) {
            if (column >= 0 && column < COLUMNS) {
                // No number lies from the one to the other, and the first one that comes replaces both.
                leasts[column] = GREATEST_VALUE + 1;
                greatests[column] = -GREATEST_VALUE - 1;
                misses[column] = false;
            }
        }

        void admit(int column, int value) {
            if (column < 0 || column >= COLUMNS) {
                return;
            }
            if (value == MISSING) {
                misses[column] = true;
                return;
            }
            leasts[column] = Math.min(leasts[column], value);
            greatests[column] = Math.max(greatests[column], value);
        }

        void admitAlone(int column, int value) {
            forgetColumn(column);
            admit(column, value);
        }

        int leastOf(int column) {
            return column >= 0 && column < COLUMNS ? leasts[column] : GREATEST_VALUE + 1;
        }

        int greatestOf(int column) {
            return column >= 0 && column < COLUMNS ? greatests[column] : -GREATEST_VALUE - 1;
        }

        boolean hasNumbers(int column) {
            return column >= 0 && column < COLUMNS && leasts[column] <= greatests[column];
        }

        boolean canMiss(int column) {
            return column >= 0 && column < COLUMNS && misses[column];
        }
    }

    /** Sixteen rows side by side: their base values, what is kept of them, and how many writes lie beside. */
    private static final class Chunk {
        private static final char[] CODES = {'p', 'r', 'd', 'o'};
        private static final int VALUE_BITS = 11;
        private static final int ENTRY_BITS = 15;
        // Above every cost, for an encoding that is not possible.
        private static final int NEVER = 1000000;

        private final int start;
        private final int[] base = new int[CHUNK_ROWS * COLUMNS];
        private final Bounds bounds = new Bounds();
        private int size;
        private int beside;

        Chunk(int start) {
            this.start = start;
        }

        void append(Rows rows, int row) {
            if (size < CHUNK_ROWS) {
                takeBase(rows, row, size);
                size++;
            }
        }

        int renew(Rows rows) {
            int writes = beside;
            beside = 0;
            bounds.forget();
            for (int i = 0; i < size; i++) {
                takeBase(rows, start + i, i);
            }
            return writes;
        }

        private void takeBase(Rows rows, int row, int place) {
            boolean isAlive = rows.isAlive(row);
            for (int column = 0; column < COLUMNS; column++) {
                int value = isAlive ? rows.valueOf(row, column) : MISSING;
                int cell = place * COLUMNS + column;
                if (cell >= 0 && cell < base.length) {
                    base[cell] = value;
                }
                // The missing value of a removed row is encoded, but no scan can meet it.
                if (isAlive) {
                    bounds.admit(column, value);
                }
            }
        }

        private int baseOf(int place, int column) {
            int cell = place * COLUMNS + column;
            return cell >= 0 && cell < base.length ? base[cell] : MISSING;
        }

        char code(int column) {
            int best = cheapest(column);
            return best >= 0 && best < CODES.length ? CODES[best] : 'p';
        }

        int leastCost(int column) {
            return cost(cheapest(column), column);
        }

        private int cheapest(int column) {
            int best = 0;
            int least = cost(0, column);
            for (int code = 1; code < CODES.length; code++) {
                int next = cost(code, column);
                if (next < least) {
                    best = code;
                    least = next;
                }
            }
            return best;
        }

        private int cost(int code, int column) {
            switch (code) {
                case 0:
                    return VALUE_BITS * size;
                case 1:
                    return ENTRY_BITS * runs(column);
                case 2:
                    return dictionaryCost(column);
                default:
                    return offsetsCost(column);
            }
        }

        private int runs(int column) {
            int found = 0;
            for (int i = 0; i < size; i++) {
                if (i == 0 || baseOf(i, column) != baseOf(i - 1, column)) {
                    found++;
                }
            }
            return found;
        }

        private int dictionaryCost(int column) {
            int different = 0;
            for (int i = 0; i < size; i++) {
                if (isFirstOfItsValue(i, column)) {
                    different++;
                }
            }
            return VALUE_BITS * different + bitsToTell(different) * size;
        }

        private boolean isFirstOfItsValue(int place, int column) {
            for (int i = 0; i < place; i++) {
                if (baseOf(i, column) == baseOf(place, column)) {
                    return false;
                }
            }
            return true;
        }

        private int offsetsCost(int column) {
            int least = baseOf(0, column);
            int greatest = least;
            for (int i = 0; i < size; i++) {
                int value = baseOf(i, column);
                if (value == MISSING) {
                    return NEVER;
                }
                least = Math.min(least, value);
                greatest = Math.max(greatest, value);
            }
            return ENTRY_BITS + bitsToTell(greatest - least + 1) * size;
        }

        /** The least number of bits that tells so many things from one another. */
        private static int bitsToTell(int many) {
            int bits = 0;
            while (bits < 30 && 1 << bits < many) {
                bits++;
            }
            return bits;
        }
    }

    /** A comparison of a column, or a filter of others. */
    private static final class Filter {
        private final char kind;
        private final int column;
        private final int number;
        private final int first;
        private final int second;
        private final int comparisons;
        // A bit for each column that it compares, and for each filter that it is made of.
        private final int columns;
        private final int members;

        Filter(char kind, int column, int number, int place) {
            this.kind = kind;
            this.column = column;
            this.number = number;
            this.first = place;
            this.second = place;
            this.comparisons = 1;
            this.columns = 1 << column;
            this.members = 1 << place;
        }

        Filter(char kind, int first, int second, int comparisons, int columns, int members) {
            this.kind = kind;
            this.column = 0;
            this.number = 0;
            this.first = first;
            this.second = second;
            this.comparisons = comparisons;
            this.columns = columns;
            this.members = members;
        }

        boolean isJoined() {
            return kind == 'a' || kind == 'o' || kind == 'n';
        }

        int compared(Bounds bounds) {
            boolean canMiss = bounds.canMiss(column);
            boolean hasNumbers = bounds.hasNumbers(column);
            if (kind == 'm') {
                return (canMiss ? TRUE : 0) | (hasNumbers ? FALSE : 0);
            }
            int outcomes = canMiss ? UNKNOWN : 0;
            if (hasNumbers) {
                outcomes |= comparedWithin(bounds.leastOf(column), bounds.greatestOf(column));
            }
            return outcomes;
        }

        private int comparedWithin(int least, int greatest) {
            boolean isLess = least < number;
            boolean isEqual = least <= number && number <= greatest;
            boolean isGreater = greatest > number;
            if (kind == '<') {
                return (isLess ? TRUE : 0) | (isEqual || isGreater ? FALSE : 0);
            }
            if (kind == '>') {
                return (isGreater ? TRUE : 0) | (isEqual || isLess ? FALSE : 0);
            }
            return (isEqual ? TRUE : 0) | (isLess || isGreater ? FALSE : 0);
        }

        int joined(int one, int other) {
            if (kind == 'n') {
                return negated(one);
            }
            if (kind == 'a') {
                return both(one, other);
            }
            return negated(both(negated(one), negated(other)));
        }

        private static int negated(int outcomes) {
            return outcomes & UNKNOWN | ((outcomes & TRUE) != 0 ? FALSE : 0) | ((outcomes & FALSE) != 0 ? TRUE : 0);
        }

        private static int both(int one, int other) {
            if (one == 0 || other == 0) {
                return 0;
            }
            int outcomes = one & other & TRUE | (one | other) & FALSE;
            boolean oneFirst = (one & UNKNOWN) != 0 && (other & (TRUE | UNKNOWN)) != 0;
            boolean otherFirst = (other & UNKNOWN) != 0 && (one & (TRUE | UNKNOWN)) != 0;
            return outcomes | (oneFirst || otherFirst ? UNKNOWN : 0);
        }
    }

    /** All filters. Each one is made of such with lower numbers, so that one way upwards works all of them out. */
    private static final class Filters {
        private final List<Filter> all = new ArrayList<Filter>();
        private final int[] found = new int[MOST_FILTERS];
        private final Bounds single = new Bounds();

        int count() {
            return all.size();
        }

        boolean has(int filter) {
            return filter >= 0 && filter < all.size();
        }

        int add(Filter filter) {
            all.add(filter);
            return all.size() - 1;
        }

        int addJoined(char kind, int first, int second, int comparisons) {
            int columns = columnsOf(first) | columnsOf(second);
            int members = membersOf(first) | membersOf(second) | 1 << all.size();
            return add(new Filter(kind, first, second, comparisons, columns, members));
        }

        int comparisonsOf(int filter) {
            return has(filter) ? all.get(filter).comparisons : 0;
        }

        int columnsOf(int filter) {
            return has(filter) ? all.get(filter).columns : 0;
        }

        private int membersOf(int filter) {
            return has(filter) ? all.get(filter).members : 0;
        }

        boolean chooses(int filter, Rows rows, int row) {
            int columns = columnsOf(filter);
            for (int column = 0; column < COLUMNS; column++) {
                if ((columns >> column & 1) != 0) {
                    single.admitAlone(column, rows.valueOf(row, column));
                }
            }
            return outcomes(filter, single) == TRUE;
        }

        int outcomes(int filter, Bounds bounds) {
            int members = membersOf(filter);
            for (int i = 0; i <= filter && i < all.size() && i < found.length; i++) {
                if ((members >> i & 1) != 0) {
                    Filter part = all.get(i);
                    found[i] = part.isJoined()
                            ? part.joined(foundOf(part.first), foundOf(part.second))
                            : part.compared(bounds);
                }
            }
            return foundOf(filter);
        }

        private int foundOf(int filter) {
            return filter >= 0 && filter < found.length ? found[filter] : 0;
        }
    }

    /** Groups by rising keys, each one with its figures side by side in one array. */
    private static final class Groups {
        private static final int KEY = 0;
        private static final int COUNT = 1;
        private static final int MEASURED = 2;
        private static final int SUM = 3;
        private static final int LEAST = 4;
        private static final int GREATEST = 5;
        private static final int WIDTH = 6;

        private final int[] cells;
        private int size;

        Groups(int room) {
            cells = new int[room > 0 ? room * WIDTH : 0];
        }

        void restart() {
            size = 0;
        }

        int cell(int index, int what) {
            int place = index * WIDTH + what;
            return place >= 0 && place < cells.length ? cells[place] : 0;
        }

        boolean hasKey(int key) {
            int index = placeOf(key);
            return index < size && cell(index, KEY) == key;
        }

        private int placeOf(int key) {
            int index = 0;
            while (index < size && cell(index, KEY) < key) {
                index++;
            }
            return index;
        }

        void take(int key, int measure) {
            int index = placeOf(key);
            if (index >= size || cell(index, KEY) != key) {
                insert(index, key);
            }
            int start = index * WIDTH;
            if (start < 0 || start + WIDTH > cells.length) {
                return;
            }
            cells[start + COUNT]++;
            if (measure != MISSING) {
                cells[start + MEASURED]++;
                cells[start + SUM] += measure;
                cells[start + LEAST] = Math.min(cells[start + LEAST], measure);
                cells[start + GREATEST] = Math.max(cells[start + GREATEST], measure);
            }
        }

        private void insert(int index, int key) {
            int start = index * WIDTH;
            int end = size * WIDTH;
            if (start < 0 || start > end || end + WIDTH > cells.length) {
                return;
            }
            System.arraycopy(cells, start, cells, start + WIDTH, end - start);
            cells[start + KEY] = key;
            cells[start + COUNT] = 0;
            cells[start + MEASURED] = 0;
            cells[start + SUM] = 0;
            cells[start + LEAST] = GREATEST_VALUE;
            cells[start + GREATEST] = -GREATEST_VALUE;
            size++;
        }

        boolean isLike(Groups other) {
            if (size != other.size) {
                return false;
            }
            for (int i = 0; i < size; i++) {
                for (int what = 0; what < WIDTH; what++) {
                    if (cell(i, what) != other.cell(i, what)) {
                        return false;
                    }
                }
            }
            return true;
        }
    }

    /**
     * The memory of a scan: how many groups each part has in it, and which parts are spilled. Which rows
     * were set aside is not kept: a result is put together of all rows in any case, so Groups takes them at once.
     */
    private static final class Parts {
        private static final int PARTS = 4;
        private static final int ROOM_OF_GRANT = 2;

        private final int[] held = new int[PARTS];
        private final boolean[] isOut = new boolean[PARTS];
        private int grant;
        private int spills;
        private int rowsAside;

        Parts(int grant) {
            this.grant = grant;
        }

        void take(int key, boolean needsGroup) {
            int part = key == MISSING ? 0 : Math.floorMod(key, PARTS);
            if (part < 0 || part >= PARTS) {
                return;
            }
            if (needsGroup && !isOut[part]) {
                spillUntil(ROOM_OF_GRANT * grant - 1);
            }
            // The part that was spilled for the group may be its own one.
            if (isOut[part]) {
                rowsAside++;
            } else if (needsGroup) {
                held[part]++;
            }
        }

        int lower(int less) {
            grant = less;
            return spillUntil(ROOM_OF_GRANT * less);
        }

        private int spillUntil(int most) {
            int before = spills;
            for (int i = 0; i < PARTS && heldInAll() > most; i++) {
                spill(fullest());
            }
            return spills - before;
        }

        private void spill(int part) {
            if (part >= 0 && part < PARTS && !isOut[part]) {
                isOut[part] = true;
                held[part] = 0;
                spills++;
            }
        }

        private int heldInAll() {
            int sum = 0;
            for (int part = 0; part < PARTS; part++) {
                sum += held[part];
            }
            return sum;
        }

        private int fullest() {
            int best = 0;
            for (int part = 1; part < PARTS; part++) {
                if (held[part] > held[best]) {
                    best = part;
                }
            }
            return best;
        }
    }

    /** One scan with the rows of its moment. */
    private static final class Scan {
        private static final int NOT_DONE = -1;

        private final int filter;
        private final int key;
        private final int measure;
        private final int moment;
        private final int chunkCount;
        private final Rows seen;
        private final Groups groups;
        private final Parts parts;
        // A bit for each chunk that it has looked at.
        private int looked;
        private int skips;
        // Its place among the scans that are done.
        private int place = NOT_DONE;

        Scan(int filter, int key, int measure, int grant, int moment, int chunkCount, Rows now) {
            this.filter = filter;
            this.key = key;
            this.measure = measure;
            this.moment = moment;
            this.chunkCount = chunkCount;
            this.seen = now.asTheyAre();
            this.groups = new Groups(seen.living);
            this.parts = new Parts(grant);
        }

        boolean isFinished() {
            return place != NOT_DONE;
        }

        int looks() {
            return Integer.bitCount(looked);
        }

        boolean hasLookedAtAll() {
            return looks() >= chunkCount;
        }

        boolean hasToLookAt(int chunk) {
            return chunk < chunkCount && (looked >> chunk & 1) == 0;
        }

        int columns() {
            return 1 << measure | (key == NO_KEY ? 0 : 1 << key);
        }

        int keyIn(Rows rows, int row) {
            return key == NO_KEY ? 0 : rows.valueOf(row, key);
        }

        /** Answers whether it has read the chunk, and not skipped it. */
        boolean look(int number, Chunk chunk, Filters filters) {
            looked |= 1 << number;
            if ((filters.outcomes(filter, chunk.bounds) & TRUE) == 0) {
                skips++;
                return false;
            }
            for (int i = 0; i < CHUNK_ROWS; i++) {
                int row = chunk.start + i;
                if (seen.isAlive(row) && filters.chooses(filter, seen, row)) {
                    takeRow(row);
                }
            }
            return true;
        }

        private void takeRow(int row) {
            int group = keyIn(seen, row);
            parts.take(group, !groups.hasKey(group));
            groups.take(group, seen.valueOf(row, measure));
        }
    }
}
