import java.util.ArrayList;
import java.util.Comparator;
import java.util.EnumSet;
import java.util.HashMap;
import java.util.HashSet;
import java.util.List;
import java.util.Map;
import java.util.NoSuchElementException;
import java.util.Objects;
import java.util.Set;
import java.util.TreeMap;

/**
 * The document's words, played anew from the history of writes at each question. It shares no idea with the
 * program on purpose: nothing is kept that could be worked out again.
 */
final class Model implements Store {
    private enum Truth { TRUE, FALSE, UNKNOWN }

    /** One write: a load has values, a set a value, a clear none of them, a removal no column. */
    private record Write(char kind, int row, int column, Integer value, int[][] loaded) { }

    /** The rows of a moment; a removed one is null. */
    private record View(List<Integer[]> rows) { }

    private record Filter(char kind, int column, int number, int first, int second) { }

    private static final class Scan {
        int filter;
        Integer key;
        int measure;
        int grant;
        int moment;
        int chunks;
        final Set<Integer> looked = new HashSet<>();
        int skipped;
        int aside;
        final Set<Integer> spilled = new HashSet<>();
        final Map<Integer, Integer> partOfHeldKey = new HashMap<>();
        final List<Integer> taken = new ArrayList<>();
        boolean isDone;
    }

    private record Group(Integer key, int count, int measured, int sum, Integer least, Integer greatest) { }

    private final List<Write> writes = new ArrayList<>();
    /** For each chunk the moments at which it was mended. */
    private final Map<Integer, Integer> mended = new HashMap<>();
    private final List<Filter> filters = new ArrayList<>();
    private final List<Scan> scans = new ArrayList<>();
    private final List<Scan> done = new ArrayList<>();
    private int at;
    private long readCount;
    private final Map<Integer, View> views = new HashMap<>();

    // ---- the rows at a moment

    private View view(int moment) {
        return views.computeIfAbsent(moment, this::replay);
    }

    private View replay(int moment) {
        List<Integer[]> rows = new ArrayList<>();
        for (Write write : writes.subList(0, moment)) {
            switch (write.kind()) {
                case 'l':
                    for (int[] row : write.loaded()) {
                        rows.add(new Integer[] {row[0], row[1], row[2], row[3]});
                    }
                    break;
                case 'r':
                    rows.set(write.row(), null);
                    break;
                default:
                    rows.get(write.row())[write.column()] = write.value();
            }
        }
        return new View(rows);
    }

    private View now() {
        return view(writes.size());
    }

    private int rowCount() {
        return now().rows().size();
    }

    private Integer[] rowNow(int row) {
        return now().rows().get(row);
    }

    private void checkRow(int row) {
        if (row < 0 || row >= rowCount()) {
            throw new IndexOutOfBoundsException();
        }
    }

    private static void checkColumn(int column) {
        if (column < 0 || column > 3) {
            throw new IndexOutOfBoundsException();
        }
    }

    private void checkChunk(int chunk) {
        if (chunk < 0 || chunk >= chunks()) {
            throw new IndexOutOfBoundsException();
        }
    }

    private static boolean isOutside(int number, int least, int greatest) {
        return number < least || number > greatest;
    }

    @Override
    public int load(int many, int first, int step, int turn) {
        if (isOutside(many, 1, 40) || isOutside(first, -999, 999) || isOutside(step, -99, 99)
                || isOutside(turn, 1, 999)) {
            throw new IllegalArgumentException();
        }
        if (rowCount() + many > 160) {
            throw new IllegalStateException();
        }
        int[][] loaded = new int[many][];
        for (int i = 0; i < many; i++) {
            int zeroth = first + i * step;
            while (zeroth < 0) {
                zeroth += turn;
            }
            while (zeroth >= turn) {
                zeroth -= turn;
            }
            loaded[i] = new int[] {zeroth, (int) ((long) zeroth * zeroth % 37), i / 4, zeroth % 3};
        }
        writes.add(new Write('l', rowCount(), -1, null, loaded));
        return rowCount();
    }

    @Override
    public boolean set(int row, int column, int value) {
        checkRow(row);
        checkColumn(column);
        if (isOutside(value, -999, 999)) {
            throw new IllegalArgumentException();
        }
        return write('s', row, column, value);
    }

    @Override
    public boolean clear(int row, int column) {
        checkRow(row);
        checkColumn(column);
        return write('c', row, column, null);
    }

    private boolean write(char kind, int row, int column, Integer value) {
        if (rowNow(row) == null) {
            throw new IllegalStateException();
        }
        boolean wasMissing = rowNow(row)[column] == null;
        writes.add(new Write(kind, row, column, value, null));
        return wasMissing;
    }

    @Override
    public int remove(int row) {
        checkRow(row);
        if (rowNow(row) == null) {
            throw new IllegalStateException();
        }
        writes.add(new Write('r', row, -1, null, null));
        return (int) now().rows().stream().filter(Objects::nonNull).count();
    }

    @Override
    public int valueAt(int row, int column) {
        checkRow(row);
        checkColumn(column);
        if (rowNow(row) == null || rowNow(row)[column] == null) {
            throw new NoSuchElementException();
        }
        return rowNow(row)[column];
    }

    @Override
    public int moment() {
        return writes.size();
    }

    // ---- chunks

    @Override
    public int chunks() {
        return (rowCount() + 15) / 16;
    }

    private int endOf(int chunk) {
        return Math.min(chunk * 16 + 16, rowCount());
    }

    private int mendedAt(int chunk) {
        return mended.getOrDefault(chunk, 0);
    }

    /** The base value of a row, as an array of one column; a row that was removed by the mending has null. */
    private Integer[] baseRow(int row) {
        View then = view(mendedAt(row / 16));
        if (row < then.rows().size()) {
            return then.rows().get(row);
        }
        for (Write write : writes) {
            if (write.kind() == 'l' && row >= write.row() && row < write.row() + write.loaded().length) {
                int[] loaded = write.loaded()[row - write.row()];
                return new Integer[] {loaded[0], loaded[1], loaded[2], loaded[3]};
            }
        }
        throw new AssertionError();
    }

    private List<Integer> base(int chunk, int column) {
        List<Integer> values = new ArrayList<>();
        for (int row = chunk * 16; row < endOf(chunk); row++) {
            Integer[] base = baseRow(row);
            values.add(base == null ? null : base[column]);
        }
        return values;
    }

    private TreeMap<Integer, String> costs(int chunk, int column) {
        List<Integer> base = base(chunk, column);
        int n = base.size();
        // By rising costs, of each cost the kinds in the document's order.
        TreeMap<Integer, String> costs = new TreeMap<>();
        costs.merge(11 * n, "p", String::concat);
        int runs = 1;
        for (int i = 1; i < n; i++) {
            runs += Objects.equals(base.get(i), base.get(i - 1)) ? 0 : 1;
        }
        costs.merge(15 * runs, "r", String::concat);
        Set<Integer> different = new HashSet<>(base);
        int b = 0;
        while (Math.pow(2, b) < different.size()) {
            b++;
        }
        costs.merge(11 * different.size() + b * n, "d", String::concat);
        if (!different.contains(null)) {
            int range = different.stream().max(Comparator.naturalOrder()).get()
                    - different.stream().min(Comparator.naturalOrder()).get();
            b = 0;
            while (!(Math.pow(2, b) > range)) {
                b++;
            }
            costs.merge(15 + b * n, "o", String::concat);
        }
        return costs;
    }

    @Override
    public char encoding(int chunk, int column) {
        checkChunk(chunk);
        checkColumn(column);
        return costs(chunk, column).firstEntry().getValue().charAt(0);
    }

    @Override
    public int bits(int chunk, int column) {
        checkChunk(chunk);
        checkColumn(column);
        return costs(chunk, column).firstKey();
    }

    private List<Write> beside(int chunk) {
        List<Write> found = new ArrayList<>();
        for (Write write : writes.subList(mendedAt(chunk), writes.size())) {
            if (write.kind() != 'l' && write.row() / 16 == chunk) {
                found.add(write);
            }
        }
        return found;
    }

    @Override
    public int changes(int chunk) {
        checkChunk(chunk);
        return beside(chunk).size();
    }

    /** All that counts for the bounds: numbers, and null if one may be missing. */
    private List<Integer> counted(int chunk, int column) {
        List<Integer> found = new ArrayList<>();
        for (int row = chunk * 16; row < endOf(chunk); row++) {
            if (baseRow(row) != null) {
                found.add(baseRow(row)[column]);
            }
        }
        for (Write write : beside(chunk)) {
            if (write.column() == column) {
                found.add(write.value());
            }
        }
        return found;
    }

    private boolean hasBounds(int chunk, int column) {
        return counted(chunk, column).stream().anyMatch(Objects::nonNull);
    }

    @Override
    public int least(int chunk, int column) {
        checkChunk(chunk);
        checkColumn(column);
        return counted(chunk, column).stream().filter(Objects::nonNull).mapToInt(v -> v).min().orElseThrow();
    }

    @Override
    public int greatest(int chunk, int column) {
        checkChunk(chunk);
        checkColumn(column);
        return counted(chunk, column).stream().filter(Objects::nonNull).mapToInt(v -> v).max().orElseThrow();
    }

    @Override
    public boolean mayMiss(int chunk, int column) {
        checkChunk(chunk);
        checkColumn(column);
        return counted(chunk, column).contains(null);
    }

    @Override
    public int mend(int chunk) {
        checkChunk(chunk);
        if (openScans() > 0) {
            throw new IllegalStateException();
        }
        int lay = changes(chunk);
        mended.put(chunk, writes.size());
        return lay;
    }

    // ---- filters

    private void checkFilter(int filter) {
        if (filter < 0 || filter >= filters.size()) {
            throw new NoSuchElementException();
        }
    }

    @Override
    public int compare(char kind, int column, int number) {
        if ("<=>m".indexOf(kind) < 0 || isOutside(column, 0, 3) || kind != 'm' && isOutside(number, -999, 999)) {
            throw new IllegalArgumentException();
        }
        if (filters.size() == 30) {
            throw new IllegalStateException();
        }
        filters.add(new Filter(kind, column, number, -1, -1));
        return filters.size() - 1;
    }

    @Override
    public int join(char kind, int first, int second) {
        if ("aon".indexOf(kind) < 0) {
            throw new IllegalArgumentException();
        }
        checkFilter(first);
        if (kind != 'n') {
            checkFilter(second);
        }
        if (filters.size() == 30 || comparisons(first) + (kind == 'n' ? 0 : comparisons(second)) > 12) {
            throw new IllegalStateException();
        }
        filters.add(new Filter(kind, -1, 0, first, kind == 'n' ? -1 : second));
        return filters.size() - 1;
    }

    private int comparisons(int filter) {
        if (filter < 0) {
            return 0;
        }
        Filter asked = filters.get(filter);
        return asked.column() >= 0 ? 1 : comparisons(asked.first()) + comparisons(asked.second());
    }

    private Set<Integer> columns(int filter) {
        Set<Integer> found = new HashSet<>();
        if (filter >= 0) {
            Filter asked = filters.get(filter);
            if (asked.column() >= 0) {
                found.add(asked.column());
            }
            found.addAll(columns(asked.first()));
            found.addAll(columns(asked.second()));
        }
        return found;
    }

    private static boolean fulfils(char kind, int value, int number) {
        return kind == '<' ? value < number : kind == '>' ? value > number : value == number;
    }

    private static Truth truth(boolean isTrue) {
        return isTrue ? Truth.TRUE : Truth.FALSE;
    }

    private static Truth not(Truth one) {
        return one == Truth.UNKNOWN ? one : truth(one == Truth.FALSE);
    }

    private static Truth and(Truth one, Truth other) {
        if (one == Truth.FALSE || other == Truth.FALSE) {
            return Truth.FALSE;
        }
        return one == Truth.UNKNOWN || other == Truth.UNKNOWN ? Truth.UNKNOWN : Truth.TRUE;
    }

    private static Truth or(Truth one, Truth other) {
        if (one == Truth.TRUE || other == Truth.TRUE) {
            return Truth.TRUE;
        }
        return one == Truth.UNKNOWN || other == Truth.UNKNOWN ? Truth.UNKNOWN : Truth.FALSE;
    }

    private Truth forRow(int filter, Integer[] row) {
        Filter asked = filters.get(filter);
        switch (asked.kind()) {
            case 'm':
                return truth(row[asked.column()] == null);
            case 'a':
                return and(forRow(asked.first(), row), forRow(asked.second(), row));
            case 'o':
                return or(forRow(asked.first(), row), forRow(asked.second(), row));
            case 'n':
                return not(forRow(asked.first(), row));
            default:
                Integer value = row[asked.column()];
                return value == null ? Truth.UNKNOWN : truth(fulfils(asked.kind(), value, asked.number()));
        }
    }

    private Set<Truth> forChunk(int filter, int chunk) {
        Filter asked = filters.get(filter);
        Set<Truth> found = EnumSet.noneOf(Truth.class);
        switch (asked.kind()) {
            case 'n':
                for (Truth one : forChunk(asked.first(), chunk)) {
                    found.add(not(one));
                }
                return found;
            case 'a':
            case 'o':
                Set<Truth> others = forChunk(asked.second(), chunk);
                for (Truth one : forChunk(asked.first(), chunk)) {
                    for (Truth other : others) {
                        found.add(asked.kind() == 'a' ? and(one, other) : or(one, other));
                    }
                }
                return found;
            default:
                return forComparison(asked, chunk);
        }
    }

    private Set<Truth> forComparison(Filter asked, int chunk) {
        Set<Truth> found = EnumSet.noneOf(Truth.class);
        boolean hasBounds = hasBounds(chunk, asked.column());
        if (asked.kind() == 'm') {
            if (mayMiss(chunk, asked.column())) {
                found.add(Truth.TRUE);
            }
            if (hasBounds) {
                found.add(Truth.FALSE);
            }
            return found;
        }
        if (hasBounds) {
            int end = greatest(chunk, asked.column());
            for (int number = least(chunk, asked.column()); number <= end; number++) {
                found.add(truth(fulfils(asked.kind(), number, asked.number())));
            }
        }
        if (mayMiss(chunk, asked.column())) {
            found.add(Truth.UNKNOWN);
        }
        return found;
    }

    @Override
    public int canBe(int filter, int chunk) {
        checkFilter(filter);
        checkChunk(chunk);
        Set<Truth> found = forChunk(filter, chunk);
        return (found.contains(Truth.TRUE) ? 1 : 0) + (found.contains(Truth.FALSE) ? 2 : 0)
                + (found.contains(Truth.UNKNOWN) ? 4 : 0);
    }

    // ---- scans

    private long openScans() {
        return scans.stream().filter(scan -> !scan.isDone).count();
    }

    private Scan scan(int scan) {
        if (scan < 0 || scan >= scans.size()) {
            throw new NoSuchElementException();
        }
        return scans.get(scan);
    }

    @Override
    public int open(int filter, int key, int measure, int grant) {
        checkFilter(filter);
        if (isOutside(key, -1, 3) || isOutside(measure, 0, 3) || isOutside(grant, 1, 6)) {
            throw new IllegalArgumentException();
        }
        if (openScans() == 4 || scans.size() == 40) {
            throw new IllegalStateException();
        }
        Scan scan = new Scan();
        scan.filter = filter;
        scan.key = key == -1 ? null : key;
        scan.measure = measure;
        scan.grant = grant;
        scan.moment = writes.size();
        scan.chunks = chunks();
        scans.add(scan);
        endIfAllIsLookedAt(scan);
        return scans.size() - 1;
    }

    private void endIfAllIsLookedAt(Scan scan) {
        if (!scan.isDone && scan.looked.size() == scan.chunks) {
            scan.isDone = true;
            done.add(scan);
        }
    }

    @Override
    public int read(int steps) {
        if (isOutside(steps, 1, 40)) {
            throw new IllegalArgumentException();
        }
        int count = 0;
        while (count < steps && openScans() > 0) {
            boolean isRead = false;
            for (Scan scan : scans) {
                if (at < scan.chunks && !scan.looked.contains(at)) {
                    isRead |= look(scan);
                    endIfAllIsLookedAt(scan);
                }
            }
            readCount += isRead ? 1 : 0;
            at = at + 1 == chunks() ? 0 : at + 1;
            count++;
        }
        return count;
    }

    private boolean look(Scan scan) {
        scan.looked.add(at);
        if ((canBe(scan.filter, at) & 1) == 0) {
            scan.skipped++;
            return false;
        }
        List<Integer[]> rows = view(scan.moment).rows();
        for (int row = at * 16; row < at * 16 + 16 && row < rows.size(); row++) {
            if (rows.get(row) != null && forRow(scan.filter, rows.get(row)) == Truth.TRUE) {
                take(scan, row, rows.get(row));
            }
        }
        return true;
    }

    private static Integer keyOf(Scan scan, Integer[] row) {
        return scan.key == null ? Integer.valueOf(0) : row[scan.key];
    }

    private static void take(Scan scan, int number, Integer[] row) {
        scan.taken.add(number);
        Integer key = keyOf(scan, row);
        int part = key == null ? 0 : ((key % 4) + 4) % 4;
        if (!scan.spilled.contains(part) && !scan.partOfHeldKey.containsKey(key)) {
            if (scan.partOfHeldKey.size() == 2 * scan.grant) {
                spillOne(scan);
            }
            if (!scan.spilled.contains(part)) {
                scan.partOfHeldKey.put(key, part);
            }
        }
        if (scan.spilled.contains(part)) {
            scan.aside++;
        }
    }

    private static void spillOne(Scan scan) {
        int[] counts = new int[4];
        for (int part : scan.partOfHeldKey.values()) {
            counts[part]++;
        }
        int most = 0;
        for (int part = 0; part < 4; part++) {
            most = counts[part] > counts[most] ? part : most;
        }
        int out = most;
        scan.spilled.add(out);
        scan.partOfHeldKey.values().removeIf(part -> part == out);
    }

    @Override
    public int takeBack(int scan, int grant) {
        Scan asked = scan(scan);
        if (asked.isDone) {
            throw new NoSuchElementException();
        }
        if (isOutside(grant, 1, asked.grant - 1)) {
            throw new IllegalArgumentException();
        }
        asked.grant = grant;
        int before = asked.spilled.size();
        while (asked.partOfHeldKey.size() > 2 * grant) {
            spillOne(asked);
        }
        return asked.spilled.size() - before;
    }

    @Override
    public boolean isDone(int scan) {
        return scan(scan).isDone;
    }

    @Override
    public int position() {
        return at;
    }

    @Override
    public long chunksRead() {
        return readCount;
    }

    @Override
    public int skipped(int scan) {
        return scan(scan).skipped;
    }

    @Override
    public int spilled(int scan) {
        return scan(scan).spilled.size();
    }

    @Override
    public int aside(int scan) {
        return scan(scan).aside;
    }

    // ---- results

    private List<Group> result(int scan) {
        Scan asked = scan(scan);
        if (!asked.isDone) {
            throw new IllegalStateException();
        }
        List<Integer[]> rows = view(asked.moment).rows();
        TreeMap<Integer, List<Integer>> measures =
                new TreeMap<>(Comparator.nullsFirst(Comparator.<Integer>naturalOrder()));
        for (int row : asked.taken) {
            measures.computeIfAbsent(keyOf(asked, rows.get(row)), key -> new ArrayList<>())
                    .add(rows.get(row)[asked.measure]);
        }
        List<Group> groups = new ArrayList<>();
        measures.forEach((key, all) -> {
            List<Integer> known = all.stream().filter(Objects::nonNull).sorted().toList();
            groups.add(new Group(key, all.size(), known.size(), known.stream().mapToInt(v -> v).sum(),
                    known.isEmpty() ? null : known.get(0), known.isEmpty() ? null : known.get(known.size() - 1)));
        });
        return groups;
    }

    private Group group(int scan, int index) {
        List<Group> result = result(scan);
        if (index < 0 || index >= result.size()) {
            throw new IndexOutOfBoundsException();
        }
        return result.get(index);
    }

    @Override
    public int groups(int scan) {
        return result(scan).size();
    }

    @Override
    public int keyAt(int scan, int index) {
        Integer key = group(scan, index).key();
        return key == null ? 1000 : key;
    }

    @Override
    public int total(int scan, int index, int what) {
        Group group = group(scan, index);
        if (what == 0) {
            return group.count();
        }
        if (what == 1) {
            return group.measured();
        }
        if (what == 2) {
            return group.sum();
        }
        throw new IllegalArgumentException();
    }

    @Override
    public int edge(int scan, int index, boolean isGreatest) {
        Group group = group(scan, index);
        if (group.least() == null) {
            throw new UnsupportedOperationException();
        }
        return isGreatest ? group.greatest() : group.least();
    }

    @Override
    public boolean isKept(int scan) {
        Scan asked = scan(scan);
        if (!asked.isDone || done.size() - 1 - done.indexOf(asked) >= 3) {
            return false;
        }
        Set<Integer> columns = columns(asked.filter);
        columns.add(asked.measure);
        if (asked.key != null) {
            columns.add(asked.key);
        }
        for (Write write : writes.subList(asked.moment, writes.size())) {
            if (write.kind() == 'l' || write.kind() == 'r' || columns.contains(write.column())) {
                return false;
            }
        }
        return true;
    }

    @Override
    public int keptFor(int filter, int key, int measure) {
        int found = -1;
        for (int i = 0; i < scans.size(); i++) {
            Scan scan = scans.get(i);
            if (isKept(i) && scan.filter == filter && scan.measure == measure
                    && (scan.key == null ? -1 : scan.key) == key) {
                found = i;
            }
        }
        if (found < 0) {
            throw new NoSuchElementException();
        }
        return found;
    }

    // ---- sums and figures

    private void checkSum(int filter, int measure) {
        checkFilter(filter);
        if (isOutside(measure, 0, 3)) {
            throw new IllegalArgumentException();
        }
    }

    @Override
    public int sum(int filter, int measure) {
        checkSum(filter, measure);
        int sum = 0;
        for (Integer[] row : now().rows()) {
            if (row != null && forRow(filter, row) == Truth.TRUE && row[measure] != null) {
                sum += row[measure];
            }
        }
        return sum;
    }

    @Override
    public int bound(int filter, int measure, boolean isAbove) {
        checkSum(filter, measure);
        int sum = 0;
        for (int chunk = 0; chunk < chunks(); chunk++) {
            if ((canBe(filter, chunk) & 1) == 0 || !hasBounds(chunk, measure)) {
                continue;
            }
            for (int row = chunk * 16; row < endOf(chunk); row++) {
                if (rowNow(row) == null) {
                    continue;
                }
                boolean isSure = canBe(filter, chunk) == 1 && !mayMiss(chunk, measure);
                if (isAbove) {
                    sum += isSure ? greatest(chunk, measure) : Math.max(greatest(chunk, measure), 0);
                } else {
                    sum += isSure ? least(chunk, measure) : Math.min(least(chunk, measure), 0);
                }
            }
        }
        return sum;
    }

    @Override
    public double meanBits() {
        if (rowCount() == 0) {
            throw new ArithmeticException();
        }
        double sum = 0;
        for (int chunk = 0; chunk < chunks(); chunk++) {
            for (int column = 0; column < 4; column++) {
                sum += bits(chunk, column);
            }
        }
        return sum / (4.0 * rowCount());
    }

    @Override
    public float skippedShare() {
        int looks = scans.stream().mapToInt(scan -> scan.looked.size()).sum();
        int skips = scans.stream().mapToInt(scan -> scan.skipped).sum();
        if (looks == 0) {
            throw new ArithmeticException();
        }
        return (float) skips / (float) looks;
    }

    @Override
    public boolean isSound() {
        // It follows from the other promises that this always holds.
        return true;
    }
}
