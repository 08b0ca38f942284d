import java.util.ArrayList;
import java.util.List;
import java.util.Random;
import java.util.function.Function;

/** Runs of calls by chance, always the same ones, answered by the program and by the model alike. */
public final class ModelTest {
    private static final int RUNS = 1200;
    private static final int CALLS = 512;

    private record Ask(String text, Function<Store, Object> call) { }

    private final Random chance;
    // How often wrong arguments come, and how often which kind of call, differs from run to run.
    private final int wrongInHundred;
    private final int[] weights = new int[5];
    private final boolean isNarrow;
    // The filter, key and measure of each scan that was opened.
    private final List<int[]> opened = new ArrayList<>();
    private final Store program = new Program();
    private final Store model = new Model();

    private ModelTest(int run) {
        chance = new Random(run);
        wrongInHundred = new int[] {0, 3, 15}[run % 3];
        for (int i = 0; i < weights.length; i++) {
            weights[i] = 1 + chance.nextInt(12);
        }
        // Results are kept, and groups many, only where writes are few.
        if (run % 2 == 0) {
            weights[0] = 1;
        }
        isNarrow = chance.nextBoolean();
    }

    public static void main(String[] args) {
        Checks checks = new Checks();
        for (int run = 0; run < RUNS; run++) {
            int number = run;
            checks.due("run " + run, "as due", () -> new ModelTest(number).play());
        }
        checks.end("ModelTest");
    }

    private String play() {
        List<String> said = new ArrayList<>();
        for (int i = 0; i < CALLS; i++) {
            Ask ask = i < 4 ? beginning(i) : next();
            String due = Checks.outcome(() -> ask.call().apply(model));
            String got = Checks.outcome(() -> ask.call().apply(program));
            said.add(ask.text() + " = " + got);
            if (!due.equals(got)) {
                return String.join("\n", said) + " but due is " + due;
            }
        }
        return "as due";
    }

    private Ask beginning(int i) {
        if (i == 2 && chance.nextBoolean()) {
            return ask("compare(>, 0, -999)", store -> store.compare('>', 0, -999));
        }
        return i < 2 ? load() : i == 2 ? compare() : open();
    }

    private Ask next() {
        int sum = 0;
        for (int weight : weights) {
            sum += weight;
        }
        int drawn = chance.nextInt(sum);
        for (int i = 0; i < weights.length; i++) {
            drawn -= weights[i];
            if (drawn < 0) {
                return ofKind(i);
            }
        }
        throw new AssertionError();
    }

    private Ask ofKind(int kind) {
        switch (kind) {
            case 0:
                return write();
            case 1:
                return scan();
            case 2:
                return filter();
            case 3:
                return askChunks();
            default:
                return askResults();
        }
    }

    private boolean isWrong() {
        return chance.nextInt(100) < wrongInHundred;
    }

    private int from(int least, int greatest) {
        return least + chance.nextInt(greatest - least + 1);
    }

    /** A number of the range, or now and then one just outside or far outside of it. */
    private int about(int least, int greatest) {
        if (!isWrong()) {
            return least > greatest ? least : from(least, greatest);
        }
        int[] outside = {least - 1, greatest + 1, Integer.MIN_VALUE, Integer.MAX_VALUE, least, greatest};
        return outside[chance.nextInt(outside.length)];
    }

    private int row() {
        return about(0, rows() - 1);
    }

    private int rows() {
        int found = 0;
        for (int row = 159; row >= 0 && found == 0; row--) {
            int asked = row;
            if (!Checks.outcome(() -> model.valueAt(asked, 0)).equals("throws IndexOutOfBoundsException")) {
                found = row + 1;
            }
        }
        return found;
    }

    private int column() {
        return about(0, 3);
    }

    private int chunk() {
        return about(0, model.chunks() - 1);
    }

    private int scans() {
        int found = 0;
        while (found < 40 && isThereScan(found)) {
            found++;
        }
        return found;
    }

    private boolean isThereScan(int scan) {
        return !Checks.outcome(() -> model.isDone(scan)).startsWith("throws");
    }

    private int scanNumber() {
        return about(Math.max(0, scans() - 6), scans() - 1);
    }

    private int filters() {
        int found = 0;
        while (found < 30 && isThereFilter(found)) {
            found++;
        }
        return found;
    }

    private boolean isThereFilter(int filter) {
        return !Checks.outcome(() -> model.canBe(filter, -1)).equals("throws NoSuchElementException");
    }

    private int filterNumber() {
        if (chance.nextInt(3) == 0) {
            return 0;
        }
        return about(0, filters() - 1);
    }

    private int value() {
        return isNarrow ? about(-3, 6) : about(-999, 999);
    }

    private char kind(String kinds) {
        return isWrong() ? "<=>maonx".charAt(chance.nextInt(8)) : kinds.charAt(chance.nextInt(kinds.length()));
    }

    private Ask ask(String text, Function<Store, Object> call) {
        return new Ask(text, call);
    }

    private Ask load() {
        int many = about(1, chance.nextInt(4) == 0 ? 40 : 18);
        int first = about(-999, 999);
        int step = chance.nextInt(3) == 0 ? about(-99, 99) : about(-1, 3);
        int turn = isNarrow ? about(1, 9) : about(1, 999);
        return ask("load(" + many + ", " + first + ", " + step + ", " + turn + ")",
                store -> store.load(many, first, step, turn));
    }

    private Ask write() {
        int drawn = chance.nextInt(24);
        int row = row();
        int column = column();
        if (drawn == 0) {
            return load();
        }
        if (drawn < 4) {
            return ask("remove(" + row + ")", store -> store.remove(row));
        }
        if (drawn < 7) {
            int chunk = chunk();
            return ask("mend(" + chunk + ")", store -> store.mend(chunk));
        }
        if (drawn < 13) {
            return ask("clear(" + row + ", " + column + ")", store -> store.clear(row, column));
        }
        int value = value();
        return ask("set(" + row + ", " + column + ", " + value + ")", store -> store.set(row, column, value));
    }

    private Ask open() {
        int filter = filterNumber();
        int key = about(-1, 3);
        int measure = column();
        int grant = about(1, 6);
        return ask("open(" + filter + ", " + key + ", " + measure + ", " + grant + ")",
                store -> {
                    int scan = store.open(filter, key, measure, grant);
                    if (store == model) {
                        opened.add(new int[] {filter, key, measure});
                    }
                    return scan;
                });
    }

    private Ask takeBack() {
        int scan = scanNumber();
        for (int i = 0; i < scans() && !isWrong(); i++) {
            int asked = i;
            if (Checks.outcome(() -> model.isDone(asked)).equals("false") && chance.nextBoolean()) {
                scan = asked;
            }
        }
        int taken = scan;
        int grant = about(1, 4);
        return ask("takeBack(" + taken + ", " + grant + ")", store -> store.takeBack(taken, grant));
    }

    private Ask keptFor() {
        if (opened.isEmpty() || chance.nextInt(4) == 0) {
            return keptFor(filterNumber(), about(-1, 3), column());
        }
        int[] known = opened.get(from(Math.max(0, opened.size() - 4), opened.size() - 1));
        return keptFor(known[0], known[1], known[2]);
    }

    private Ask keptFor(int filter, int key, int measure) {
        return ask("keptFor(" + filter + ", " + key + ", " + measure + ")",
                store -> store.keptFor(filter, key, measure));
    }

    private Ask scan() {
        int scan = scanNumber();
        switch (chance.nextInt(10)) {
            case 0:
            case 1:
                return open();
            case 2:
            case 3:
            case 4:
                int steps = chance.nextInt(3) == 0 ? about(1, 40) : about(1, 3);
                return ask("read(" + steps + ")", store -> store.read(steps));
            case 5:
                return takeBack();
            case 6:
                return ask("isDone(" + scan + ")", store -> store.isDone(scan));
            case 7:
                return chance.nextBoolean() ? ask("position()", Store::position)
                        : ask("chunksRead()", Store::chunksRead);
            case 8:
                return ask("skipped(" + scan + ")", store -> store.skipped(scan));
            default:
                return chance.nextBoolean() ? ask("spilled(" + scan + ")", store -> store.spilled(scan))
                        : ask("aside(" + scan + ")", store -> store.aside(scan));
        }
    }

    private Ask compare() {
        char kind = kind("<=>m");
        int column = column();
        int number = value();
        return ask("compare(" + kind + ", " + column + ", " + number + ")",
                store -> store.compare(kind, column, number));
    }

    private Ask filter() {
        int drawn = chance.nextInt(10);
        int filter = filterNumber();
        if (drawn < 2) {
            return compare();
        }
        if (drawn < 4) {
            char kind = kind("aon");
            int second = filterNumber();
            return ask("join(" + kind + ", " + filter + ", " + second + ")",
                    store -> store.join(kind, filter, second));
        }
        int measure = column();
        if (drawn < 6) {
            return ask("sum(" + filter + ", " + measure + ")", store -> store.sum(filter, measure));
        }
        if (drawn < 8) {
            boolean isAbove = chance.nextBoolean();
            return ask("bound(" + filter + ", " + measure + ", " + isAbove + ")",
                    store -> store.bound(filter, measure, isAbove));
        }
        int chunk = chunk();
        return ask("canBe(" + filter + ", " + chunk + ")", store -> store.canBe(filter, chunk));
    }

    private Ask askChunks() {
        int chunk = chunk();
        int column = column();
        int row = row();
        String cell = "(" + chunk + ", " + column + ")";
        switch (chance.nextInt(9)) {
            case 0:
                return ask("encoding" + cell, store -> store.encoding(chunk, column));
            case 1:
                return ask("bits" + cell, store -> store.bits(chunk, column));
            case 2:
                return ask("changes(" + chunk + ")", store -> store.changes(chunk));
            case 3:
                return ask("least" + cell, store -> store.least(chunk, column));
            case 4:
                return ask("greatest" + cell, store -> store.greatest(chunk, column));
            case 5:
                return ask("mayMiss" + cell, store -> store.mayMiss(chunk, column));
            case 6:
                return chance.nextBoolean() ? ask("moment()", Store::moment) : ask("chunks()", Store::chunks);
            case 7:
                return ask("meanBits()", Store::meanBits);
            default:
                return ask("valueAt(" + row + ", " + column + ")", store -> store.valueAt(row, column));
        }
    }

    private Ask askResults() {
        int scan = scanNumber();
        int groups = 0;
        while (groups < 160 && isThereGroup(scan, groups)) {
            groups++;
        }
        int index = about(0, groups - 1);
        String group = "(" + scan + ", " + index + ")";
        switch (chance.nextInt(9)) {
            case 0:
                return ask("groups(" + scan + ")", store -> store.groups(scan));
            case 1:
                return ask("keyAt" + group, store -> store.keyAt(scan, index));
            case 2:
            case 3:
                int what = about(0, 2);
                return ask("total" + group + what, store -> store.total(scan, index, what));
            case 4:
                boolean isGreatest = chance.nextBoolean();
                return ask("edge" + group + isGreatest, store -> store.edge(scan, index, isGreatest));
            case 5:
                return ask("isKept(" + scan + ")", store -> store.isKept(scan));
            case 6:
                return keptFor();
            case 7:
                return ask("skippedShare()", Store::skippedShare);
            default:
                return ask("isSound()", Store::isSound);
        }
    }

    private boolean isThereGroup(int scan, int index) {
        return !Checks.outcome(() -> model.keyAt(scan, index)).startsWith("throws");
    }
}
