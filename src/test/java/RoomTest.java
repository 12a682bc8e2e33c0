import java.lang.reflect.Array;
import java.lang.reflect.Field;
import java.lang.reflect.Modifier;
import java.util.Collections;
import java.util.IdentityHashMap;
import java.util.Set;

/**
 * All calls of a run live in one room of 600,000 objects and 7.3 million fields and elements. An object is counted with
 * all that it holds; what a call makes is counted by the bytes that the machine hands out.
 */
public final class RoomTest {
    private static final int CALLS = 512;
    private static final int MOST_OBJECTS = 600_000;
    private static final int MOST_PARTS = 7_300_000;
    private static final String DEAREST = "v;di1s0s1s2i2;dg0s3s4s5i3;dg1g3s6s7i4;dg2g4g5g6g7";
    /** A part is mostly an int; the heads of objects are counted, too, so that the bytes are on the safe side. */
    private static final int BYTES_OF_PART = 4;

    private static long objects = 0;
    private static long parts = 0;

    public static void main(String[] args) throws IllegalAccessException {
        VillageCuts x = Checks.withLand(DEAREST);
        x.cuts();
        count(x, Collections.newSetFromMap(new IdentityHashMap<>()));
        holds("512 new objects, all kept, stay below half of the room: " + objects + " objects, " + parts + " parts each",
            objects * CALLS < MOST_OBJECTS / 2 && parts * CALLS < MOST_PARTS / 2);
        landsStayFarBelow(x);
        otherCallsMakeNothing(x);
        Checks.end();
    }

    private static void holds(String what, boolean is) {
        Checks.due(what, is ? 1 : 0, 1);
    }

    private static void count(Object o, Set<Object> seen) throws IllegalAccessException {
        if (o == null || !seen.add(o)) {
            return;
        }
        objects++;
        if (o.getClass().isArray()) {
            parts += Array.getLength(o);
            for (int k = 0; k < Array.getLength(o) && !o.getClass().getComponentType().isPrimitive(); k++) {
                count(Array.get(o, k), seen);
            }
            return;
        }
        for (Class<?> c = o.getClass(); c != Object.class; c = c.getSuperclass()) {
            for (Field f : c.getDeclaredFields()) {
                if (!Modifier.isStatic(f.getModifiers())) {
                    parts++;
                    f.setAccessible(true);
                    count(f.getType().isPrimitive() ? null : f.get(o), seen);
                }
            }
        }
    }

    private static long bytes() {
        var threads = (com.sun.management.ThreadMXBean) java.lang.management.ManagementFactory.getThreadMXBean();
        return threads.getThreadAllocatedBytes(Thread.currentThread().getId());
    }

    private static void landsStayFarBelow(VillageCuts x) {
        bytes();
        long before = bytes();
        for (int k = 0; k < CALLS; k++) {
            x.land(3, 0, 0, DEAREST.length());
        }
        long made = bytes() - before;
        // a tenth of the room, as other objects of the same run live in it, too
        holds("512 lands make " + made + " bytes", made < (long) MOST_PARTS * BYTES_OF_PART / 10);
    }

    private static void otherCallsMakeNothing(VillageCuts x) {
        Checks.row(x, 2, 2, 1, 0, 0, 0);
        allOtherCalls(x, 0);
        bytes();
        long before = bytes();
        for (int k = 0; k < CALLS; k++) {
            allOtherCalls(x, k);
        }
        long made = bytes() - before;
        holds("512 times all other calls make " + made + " bytes", made < CALLS * 16);
    }

    private static void allOtherCalls(VillageCuts x, int k) {
        x.ofVillage(0, 5);
        x.thing(3, 4, 2);
        x.ahead(0, 0, 3, 4);
        x.happen(k % 4);
        x.anew();
        x.cut(2, 2, 0, 3);
        x.now(2);
        x.tale(2, 2, 1, 3, 3);
        x.cuts();
        x.runs();
        x.first(19);
        x.some(k % 100);
        x.every(k % 100);
        x.reading(2, 2, 0, 0);
        x.back(k % 2);
        x.kinds(0);
        x.odds(k % 100, 0);
        x.sheet(0, 0, 60);
        x.put(0, 0, k);
        x.cell(0, 0, 0);
        x.copy(0, 0, 0, 1, 59);
        x.lose(0);
        x.tell(0);
        x.ring(0);
        x.as(0, 2);
        x.trace();
        x.fault();
        x.many(3);
    }
}
