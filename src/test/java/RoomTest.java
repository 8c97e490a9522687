import java.lang.reflect.Array;
import java.lang.reflect.Field;
import java.lang.reflect.Modifier;
import java.util.ArrayDeque;
import java.util.Collections;
import java.util.IdentityHashMap;
import java.util.Set;

/** The room that an object takes is all made by its constructor, and is small beside the one that a run has. */
public final class RoomTest {
    private static final int MOST_OBJECTS = 600;
    private static final int MOST_ELEMENTS = 30000;

    private static int objects;
    private static int elements;

    public static void main(String[] args) throws IllegalAccessException {
        RecordLayouts x = new RecordLayouts();
        measure(x);
        int newObjects = objects;
        int newElements = elements;
        Check.due("objects of a new object, " + objects, objects <= MOST_OBJECTS ? 1 : 0, 1);
        Check.due("fields and elements of a new object, " + elements, elements <= MOST_ELEMENTS ? 1 : 0, 1);
        int calls = useAll(x);
        Check.due("calls, " + calls, calls <= 512 ? 1 : 0, 1);
        measure(x);
        Check.due("objects after " + calls + " calls", objects, newObjects);
        Check.due("fields and elements after " + calls + " calls", elements, newElements);
        noCallMakesAnObject();
        Check.finish();
    }

    /** Counts what can be reached from an object. */
    private static void measure(Object root) throws IllegalAccessException {
        Set<Object> seen = Collections.newSetFromMap(new IdentityHashMap<>());
        ArrayDeque<Object> open = new ArrayDeque<>();
        open.add(root);
        seen.add(root);
        objects = 0;
        elements = 0;
        while (!open.isEmpty()) {
            Object one = open.remove();
            objects++;
            if (one.getClass().isArray()) {
                elements += Array.getLength(one);
                for (int i = 0; i < Array.getLength(one) && one instanceof Object[]; i++) {
                    reach(Array.get(one, i), seen, open);
                }
                continue;
            }
            for (Field field : one.getClass().getDeclaredFields()) {
                if (!Modifier.isStatic(field.getModifiers())) {
                    elements++;
                    field.setAccessible(true);
                    if (!field.getType().isPrimitive()) {
                        reach(field.get(one), seen, open);
                    }
                }
            }
        }
    }

    private static void reach(Object one, Set<Object> seen, ArrayDeque<Object> open) {
        if (one != null && seen.add(one)) {
            open.add(one);
        }
    }

    /** Each method, with as many fields, leaves and rows as there can be; returns the number of calls. */
    private static int useAll(RecordLayouts x) {
        int calls = 0;
        String[] definitions = {"a:%9;b:%9;c:%9;d:%9;e:%7;f:%7;g:%7;h:i64;", "p:#0[4];q:#0;", "k:i64;"};
        for (String definition : definitions) {
            Check.write(x, definition);
            x.define(8);
            calls += definition.length() + 2;
        }
        x.newRecord(8);
        x.addField(3, 'p', 100, 2);
        x.newTable(1, 4, 1, 0);
        x.newTable(2, 12, 8, 1);
        calls += 4;
        for (int i = 0; i < 12; i++) {
            x.fill(0, i, i, -i);
            x.sort(0, i, true);
            x.convert(1, i % 9, i % 2);
            x.copyRow(0, 0, 3);
            x.bestOrder(i % 4, 0);
            x.bestSize(i % 4);
            x.bestLayout(0, -1, 16);
            x.lines(0, -1, 0, 3, 16);
            x.runs(0, -1, 0, 3);
            x.digest();
            x.undo();
            x.set(1, i, 0, i);
            x.get(1, i, 0);
            x.count(1, 0, 2, 5);
            x.findRow(1, 0, 5, 0);
            x.sum(1, 0);
            x.migrate(1, 2, i % 9);
            x.compact();
            x.undo();
            x.undo();
            x.pathByte(1, i, i);
            x.findLeaf(1);
            x.freeBytes(true);
            calls += 23;
        }
        return calls;
    }

    /** The bytes that this thread makes while it calls are counted by the machine, a little for the asking itself. */
    private static void noCallMakesAnObject() {
        if (!(java.lang.management.ManagementFactory.getThreadMXBean() instanceof com.sun.management.ThreadMXBean)) {
            return;
        }
        com.sun.management.ThreadMXBean threads =
                (com.sun.management.ThreadMXBean) java.lang.management.ManagementFactory.getThreadMXBean();
        RecordLayouts x = new RecordLayouts();
        useAll(new RecordLayouts());
        long before = threads.getCurrentThreadAllocatedBytes();
        useAll(x);
        long made = threads.getCurrentThreadAllocatedBytes() - before;
        // The texts of the definitions are made by this test itself.
        Check.due("bytes made in 366 calls, " + made, made < 20000 ? 1 : 0, 1);
    }
}
