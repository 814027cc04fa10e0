import java.lang.reflect.Array;
import java.lang.reflect.Field;
import java.lang.reflect.Modifier;
import java.util.Collections;
import java.util.IdentityHashMap;
import java.util.Set;

/** What an object holds: its rows are made once, are few, and are used again. */
public final class RoomTest {
    public static void main(String[] args) throws IllegalAccessException {
        Bench bench = new Bench();
        Used x = new Used();
        long before = elements(x);
        bench.due("less than 300,000 fields and elements", before < 300000, true);
        Set<Object> rows = held(x);
        x.lay("1 0 obj [(a) <</B 1.5>> 2 0 R] endobj");
        for (int i = 0; i < 100; i++) {
            x.write(x.entry(0));
            x.alike(0, x.count(1) - 1);
        }
        x.rewind();
        bench.due("as many as before", elements(x), before);
        Set<Object> after = held(x);
        bench.due("as many rows", after.size(), rows.size());
        bench.due("the same rows", rows.containsAll(after), true);
        bench.end();
    }

    private static Set<Object> held(Used x) throws IllegalAccessException {
        Set<Object> found = Collections.newSetFromMap(new IdentityHashMap<>());
        collect(x, found);
        return found;
    }

    private static void collect(Object one, Set<Object> found) throws IllegalAccessException {
        if (one == null || !found.add(one) || one.getClass().isArray()) {
            return;
        }
        for (Field field : one.getClass().getDeclaredFields()) {
            if (!Modifier.isStatic(field.getModifiers()) && !field.getType().isPrimitive()) {
                field.setAccessible(true);
                collect(field.get(one), found);
            }
        }
    }

    private static long elements(Used x) throws IllegalAccessException {
        long sum = 0;
        for (Object one : held(x)) {
            boolean row = one.getClass().isArray();
            sum += row ? Array.getLength(one) : one.getClass().getDeclaredFields().length;
        }
        return sum;
    }
}
