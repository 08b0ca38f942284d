import java.io.IOException;
import java.nio.file.Files;
import java.nio.file.Path;
import java.util.ArrayList;
import java.util.List;

/** The example in README.md stands there as it is called here, and each of its lines answers what it says. */
public final class ReadmeTest {
    private final Checks checks = new Checks();
    // The lines of the example that are still to be called.
    private final List<String> lines = new ArrayList<>();

    public static void main(String[] args) throws IOException {
        ReadmeTest test = new ReadmeTest();
        test.findExample(Files.readAllLines(Path.of("README.md")));
        test.callExample();
        test.checks.due("lines that are left over", "[]", () -> test.lines);
        test.checks.end("ReadmeTest");
    }

    private void findExample(List<String> page) {
        boolean isInside = false;
        for (String line : page) {
            if (line.startsWith("```")) {
                isInside = line.equals("```java");
            } else if (isInside && line.indexOf("// ") > 0) {
                lines.add(line);
            }
        }
    }

    /** The next line of the page has this call, and behind it the answer, up to a colon or the line's end. */
    private void line(String call, Checks.Call same) {
        String next = lines.isEmpty() ? "" : lines.remove(0);
        String[] halves = next.split("; +// ", 2);
        checks.due("the line of the page", call, () -> halves[0]);
        String answer = halves.length < 2 ? "nothing" : halves[1].split(":", 2)[0];
        checks.due(call, answer, same);
    }

    private void callExample() {
        GranaryPartition store = new GranaryPartition();
        line("store.load(40, 0, 1, 20)", () -> store.load(40, 0, 1, 20));
        line("store.set(39, 0, 3)", () -> store.set(39, 0, 3));
        line("store.valueAt(39, 0)", () -> store.valueAt(39, 0));
        line("store.moment()", () -> store.moment());
        line("store.encoding(0, 0)", () -> store.encoding(0, 0));
        line("store.bits(0, 0)", () -> store.bits(0, 0));
        line("store.changes(2)", () -> store.changes(2));
        line("store.greatest(2, 0)", () -> store.greatest(2, 0));
        line("int few = store.compare('<', 0, 5)", () -> store.compare('<', 0, 5));
        line("int late = store.compare('>', 2, 7)", () -> store.compare('>', 2, 7));
        line("int both = store.join('a', few, late)", () -> store.join('a', 0, 1));
        line("store.canBe(both, 0)", () -> store.canBe(2, 0));
        line("int scan = store.open(few, 3, 0, 1)", () -> store.open(0, 3, 0, 1));
        line("store.read(40)", () -> store.read(40));
        line("store.spilled(scan)", () -> store.spilled(0));
        line("store.groups(scan)", () -> store.groups(0));
        line("store.keyAt(scan, 1)", () -> store.keyAt(0, 1));
        line("store.total(scan, 1, 0)", () -> store.total(0, 1, 0));
        line("store.total(scan, 1, 2)", () -> store.total(0, 1, 2));
        line("store.edge(scan, 1, true)", () -> store.edge(0, 1, true));
        line("store.keptFor(few, 3, 0)", () -> store.keptFor(0, 3, 0));
        line("store.sum(few, 0)", () -> store.sum(0, 0));
        line("store.bound(few, 0, true)", () -> store.bound(0, 0, true));
        line("store.clear(0, 0)", () -> store.clear(0, 0));
        line("store.isKept(scan)", () -> store.isKept(0));
        line("store.mend(0)", () -> store.mend(0));
    }
}
