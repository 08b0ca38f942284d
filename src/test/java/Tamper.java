import java.lang.reflect.Field;
import java.lang.reflect.Method;

/** Changes a value behind the program's back, because no run of calls can make isSound answer false. */
final class Tamper {
    private Tamper() { }

    static void put(GranaryPartition store, int row, int column, int value) {
        try {
            Field rows = GranaryPartition.class.getDeclaredField("rows");
            rows.setAccessible(true);
            Object inside = rows.get(store);
            Method put = inside.getClass().getDeclaredMethod("put", int.class, int.class, int.class);
            put.setAccessible(true);
            put.invoke(inside, row, column, value);
        } catch (ReflectiveOperationException thrown) {
            throw new AssertionError("the rows are held in another way now", thrown);
        }
    }
}
