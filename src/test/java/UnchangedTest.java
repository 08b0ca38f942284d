/** A method that throws an exception changes nothing, and one that only asks changes nothing either. */
public final class UnchangedTest {
    private interface Deed {
        Object on(GranaryPartition store);
    }

    private static final Checks CHECKS = new Checks();

    public static void main(String[] args) {
        throwing("load", "IllegalArgumentException", store -> store.load(41, 0, 0, 1));
        throwing("set", "IndexOutOfBoundsException", store -> store.set(18, 0, 5));
        throwing("set", "IllegalArgumentException", store -> store.set(1, 0, 1000));
        throwing("set", "IllegalStateException", store -> store.set(2, 0, 5));
        throwing("clear", "IndexOutOfBoundsException", store -> store.clear(1, 4));
        throwing("clear", "IllegalStateException", store -> store.clear(2, 0));
        throwing("remove", "IndexOutOfBoundsException", store -> store.remove(18));
        throwing("remove", "IllegalStateException", store -> store.remove(2));
        throwing("valueAt", "NoSuchElementException", store -> store.valueAt(2, 0));
        throwing("mend", "IndexOutOfBoundsException", store -> store.mend(2));
        throwing("mend", "IllegalStateException", store -> store.mend(0));
        throwing("compare", "IllegalArgumentException", store -> store.compare('=', 0, 1000));
        throwing("join", "IllegalArgumentException", store -> store.join('=', 0, 0));
        throwing("join", "NoSuchElementException", store -> store.join('a', 0, 2));
        throwing("open", "NoSuchElementException", store -> store.open(2, 0, 0, 1));
        throwing("open", "IllegalArgumentException", store -> store.open(0, 0, 0, 7));
        throwing("read", "IllegalArgumentException", store -> store.read(41));
        throwing("takeBack", "NoSuchElementException", store -> store.takeBack(0, 1));
        throwing("takeBack", "IllegalArgumentException", store -> store.takeBack(1, 6));
        throwing("groups", "IllegalStateException", store -> store.groups(1));
        throwing("total", "IllegalArgumentException", store -> store.total(0, 0, 3));
        fullStores();
        asking("isSound", GranaryPartition::isSound);
        asking("sum", store -> store.sum(1, 0));
        asking("bound", store -> store.bound(1, 0, true));
        asking("meanBits", GranaryPartition::meanBits);
        CHECKS.end("UnchangedTest");
    }

    /** Two chunks with changes beside them, two filters, a scan that is done and one that is open. */
    private static GranaryPartition used() {
        GranaryPartition store = RowsTest.loaded(18, 0, 1, 20);
        store.compare('>', 0, -999);
        store.compare('<', 0, 16);
        store.set(0, 0, 7);
        store.clear(17, 1);
        store.remove(2);
        store.open(1, 3, 0, 2);
        store.read(2);
        store.open(0, 0, 2, 6);
        store.read(1);
        return store;
    }

    private static void throwing(String name, String exception, Deed deed) {
        GranaryPartition store = used();
        String before = picture(used());
        CHECKS.due(name, "throws " + exception, () -> deed.on(store));
        CHECKS.due(name + " changed nothing", before, () -> picture(store));
    }

    private static void asking(String name, Deed deed) {
        GranaryPartition store = used();
        String before = picture(used());
        deed.on(store);
        CHECKS.due(name + " changed nothing", before, () -> picture(store));
    }

    private static void fullStores() {
        GranaryPartition store = used();
        for (int i = 2; i < 30; i++) {
            store.compare('m', 0, 0);
        }
        for (int i = 0; i < 3; i++) {
            store.open(0, 0, 2, 6);
        }
        String before = picture(store);
        CHECKS.state("compare", () -> store.compare('m', 0, 0));
        CHECKS.state("join", () -> store.join('n', 0, 0));
        CHECKS.state("open", () -> store.open(0, 0, 2, 6));
        CHECKS.due("they changed nothing", before, () -> picture(store));
        CHECKS.due("the open ones go on", 2, () -> store.read(9));
    }

    private static String picture(GranaryPartition store) {
        StringBuilder text = new StringBuilder();
        text.append(store.moment()).append(' ').append(store.chunks()).append(' ').append(store.position());
        text.append(' ').append(store.chunksRead()).append(' ').append(store.meanBits());
        text.append(' ').append(store.skippedShare()).append('\n');
        for (int row : new int[] {0, 1, 2, 17, 18}) {
            for (int column = 0; column < 2; column++) {
                int asked = column;
                add(text, () -> store.valueAt(row, asked));
            }
        }
        for (int i = 0; i < 3; i++) {
            addChunk(text, store, i);
            addScan(text, store, i);
        }
        return text.toString();
    }

    private static void add(StringBuilder text, Checks.Call call) {
        text.append(Checks.outcome(call)).append(' ');
    }

    private static void addChunk(StringBuilder text, GranaryPartition store, int chunk) {
        add(text, () -> store.changes(chunk));
        for (int column = 0; column < 4; column++) {
            int asked = column;
            add(text, () -> store.encoding(chunk, asked));
            add(text, () -> store.bits(chunk, asked));
            add(text, () -> store.least(chunk, asked));
            add(text, () -> store.greatest(chunk, asked));
            add(text, () -> store.mayMiss(chunk, asked));
        }
        add(text, () -> store.canBe(chunk, 0));
        text.append('\n');
    }

    private static void addScan(StringBuilder text, GranaryPartition store, int scan) {
        add(text, () -> store.isDone(scan));
        add(text, () -> store.isKept(scan));
        add(text, () -> store.skipped(scan));
        add(text, () -> store.spilled(scan));
        add(text, () -> store.aside(scan));
        add(text, () -> store.groups(scan));
        add(text, () -> store.keyAt(scan, 1));
        add(text, () -> store.total(scan, 1, 2));
        add(text, () -> store.edge(scan, 1, true));
        text.append('\n');
    }
}
