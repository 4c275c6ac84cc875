import java.lang.management.ManagementFactory;
import java.lang.reflect.Array;
import java.lang.reflect.Field;
import java.lang.reflect.Modifier;
import java.util.ArrayDeque;
import java.util.Collections;
import java.util.IdentityHashMap;
import java.util.Set;

/** How much room a set takes: all is made by the constructor, and no call makes more. */
public final class RoomTest extends Sets {
    private static final int MOST_OBJECTS = 100;
    private static final int MOST_ELEMENTS = 3000;
    private static final Expect expect = new Expect();

    public static void main(String[] args) throws Exception {
        TamedClassSet set = new TamedClassSet();
        long[] atFirst = room(set);
        expect.holds("a set is at most " + MOST_OBJECTS + " objects: " + atFirst[0], atFirst[0] <= MOST_OBJECTS);
        expect.holds("with at most " + MOST_ELEMENTS + " fields and elements: " + atFirst[1], atFirst[1] <= MOST_ELEMENTS);
        live(set);
        expect.due("all forty runs were made", set.runs(), 40);
        expect.due("and it ends as a sealed set: addClass(-1, 0)", set.addClass(-1, 0), TamedClassSet.SEALED);
        long[] atLast = room(set);
        expect.due("objects behind 512 calls", atLast[0], atFirst[0]);
        expect.due("fields and elements behind 512 calls", atLast[1], atFirst[1]);
        noCallMakesAnything();
        expect.end();
    }

    /** The objects and arrays that can be reached from a set, and their fields and elements. */
    private static long[] room(Object set) throws IllegalAccessException {
        Set<Object> seen = Collections.newSetFromMap(new IdentityHashMap<>());
        ArrayDeque<Object> open = new ArrayDeque<>();
        open.add(set);
        long elements = 0;
        while (!open.isEmpty()) {
            Object next = open.remove();
            if (!seen.add(next)) continue;
            if (next.getClass().isArray()) {
                elements += Array.getLength(next);
                if (next instanceof Object[] things) for (Object thing : things) if (thing != null) open.add(thing);
                continue;
            }
            for (Field field : next.getClass().getDeclaredFields()) {
                if (Modifier.isStatic(field.getModifiers())) continue;
                elements++;
                field.setAccessible(true);
                Object value = field.getType().isPrimitive() ? null : field.get(next);
                if (value != null) open.add(value);
            }
        }
        return new long[] {seen.size(), elements};
    }

    /** 512 calls with all kinds among them: a set as full as it can be, forty runs that make eight objects, looks, a clear. */
    private static void live(TamedClassSet x) {
        int calls = 0;
        x.addClass(-1, 0);
        x.addField(0, 0, INT);
        x.addMethod(0, STATIC, 0, INT, type(0));
        x.emit(0, LOAD, 0);
        x.emit(0, MAKE, 0);
        x.emit(0, STORE, 1);
        x.emit(0, LOAD, 0);
        x.emit(0, MAKE, 0);
        x.emit(0, STORE, 2);
        x.emit(0, LOAD, 0);
        x.emit(0, CALL, 0);
        x.emit(0, RETURN, 0);
        x.addMethod(0, STATIC, 1, INT, type(0));
        x.emit(1, LOAD, 0);
        x.emit(1, MAKE, 0);
        x.emit(1, RETURN, 0);
        x.check();
        calls += 17;
        for (int run = 0; run < 40; run++) {
            x.run(run % 2, 0, run);
            x.look(run % 16, 0);
            x.held(run % 16);
            x.steps();
            x.typesAt(0, run % 12);
            calls += 5;
        }
        x.clear();
        calls++;
        for (int k = 0; calls < 512; k++, calls++) {
            if (k < 10) x.addClass(k - 1, 0);
            else if (k < 25) x.addField(k % 8, 2, k % 10);
            else if (k < 34) x.addMethod(k % 8, 1, k % 8, 0, 0);
            else if (k < 140) x.emit(k % 8, k < 42 ? LOAD : k < 122 ? LIBRARY : RETURN, 0);
            else if (k < 150) x.check();
            else x.run(k % 8, 0, 0);
        }
    }

    /** Measured over many lives: what the virtual machine itself makes now and then is far less than an object a life. */
    private static void noCallMakesAnything() {
        boolean canMeasure = ManagementFactory.getThreadMXBean() instanceof com.sun.management.ThreadMXBean bean
                && bean.isThreadAllocatedMemorySupported() && bean.isThreadAllocatedMemoryEnabled();
        if (!canMeasure) return;
        com.sun.management.ThreadMXBean bean = (com.sun.management.ThreadMXBean) ManagementFactory.getThreadMXBean();
        int lives = 4000;
        TamedClassSet[] sets = new TamedClassSet[lives];
        for (int k = 0; k < lives; k++) sets[k] = new TamedClassSet();
        long thread = Thread.currentThread().getId();
        live(sets[0]);
        long before = bean.getThreadAllocatedBytes(thread);
        for (int k = 1; k < lives; k++) live(sets[k]);
        long taken = bean.getThreadAllocatedBytes(thread) - before;
        expect.holds("calls make no objects: " + taken + " bytes in " + lives + " lives", taken < 4L * lives);
    }
}
