/** The program behind the calls of the face. */
final class Program implements Store {
    private final GranaryPartition inside = new GranaryPartition();

    @Override
    public int load(int many, int first, int step, int turn) {
        return inside.load(many, first, step, turn);
    }

    @Override
    public boolean set(int row, int column, int value) {
        return inside.set(row, column, value);
    }

    @Override
    public boolean clear(int row, int column) {
        return inside.clear(row, column);
    }

    @Override
    public int remove(int row) {
        return inside.remove(row);
    }

    @Override
    public int valueAt(int row, int column) {
        return inside.valueAt(row, column);
    }

    @Override
    public int moment() {
        return inside.moment();
    }

    @Override
    public int chunks() {
        return inside.chunks();
    }

    @Override
    public char encoding(int chunk, int column) {
        return inside.encoding(chunk, column);
    }

    @Override
    public int bits(int chunk, int column) {
        return inside.bits(chunk, column);
    }

    @Override
    public int changes(int chunk) {
        return inside.changes(chunk);
    }

    @Override
    public int least(int chunk, int column) {
        return inside.least(chunk, column);
    }

    @Override
    public int greatest(int chunk, int column) {
        return inside.greatest(chunk, column);
    }

    @Override
    public boolean mayMiss(int chunk, int column) {
        return inside.mayMiss(chunk, column);
    }

    @Override
    public int mend(int chunk) {
        return inside.mend(chunk);
    }

    @Override
    public int compare(char kind, int column, int number) {
        return inside.compare(kind, column, number);
    }

    @Override
    public int join(char kind, int first, int second) {
        return inside.join(kind, first, second);
    }

    @Override
    public int canBe(int filter, int chunk) {
        return inside.canBe(filter, chunk);
    }

    @Override
    public int open(int filter, int key, int measure, int grant) {
        return inside.open(filter, key, measure, grant);
    }

    @Override
    public int read(int steps) {
        return inside.read(steps);
    }

    @Override
    public int takeBack(int scan, int grant) {
        return inside.takeBack(scan, grant);
    }

    @Override
    public boolean isDone(int scan) {
        return inside.isDone(scan);
    }

    @Override
    public int position() {
        return inside.position();
    }

    @Override
    public long chunksRead() {
        return inside.chunksRead();
    }

    @Override
    public int skipped(int scan) {
        return inside.skipped(scan);
    }

    @Override
    public int spilled(int scan) {
        return inside.spilled(scan);
    }

    @Override
    public int aside(int scan) {
        return inside.aside(scan);
    }

    @Override
    public int groups(int scan) {
        return inside.groups(scan);
    }

    @Override
    public int keyAt(int scan, int index) {
        return inside.keyAt(scan, index);
    }

    @Override
    public int total(int scan, int index, int what) {
        return inside.total(scan, index, what);
    }

    @Override
    public int edge(int scan, int index, boolean isGreatest) {
        return inside.edge(scan, index, isGreatest);
    }

    @Override
    public boolean isKept(int scan) {
        return inside.isKept(scan);
    }

    @Override
    public int keptFor(int filter, int key, int measure) {
        return inside.keptFor(filter, key, measure);
    }

    @Override
    public int sum(int filter, int measure) {
        return inside.sum(filter, measure);
    }

    @Override
    public int bound(int filter, int measure, boolean isAbove) {
        return inside.bound(filter, measure, isAbove);
    }

    @Override
    public double meanBits() {
        return inside.meanBits();
    }

    @Override
    public float skippedShare() {
        return inside.skippedShare();
    }

    @Override
    public boolean isSound() {
        return inside.isSound();
    }
}
