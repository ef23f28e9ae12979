import java.lang.management.ManagementFactory;
import java.lang.reflect.Array;
import java.lang.reflect.Field;
import java.lang.reflect.Modifier;
import java.util.ArrayDeque;
import java.util.Collections;
import java.util.IdentityHashMap;
import java.util.Set;

/**
 * The room that objects take. All calls of one run share 7,300,000 fields and elements in 600,000
 * objects: even if each of 512 calls made a new block, that must do; and no other call makes any.
 */
public final class RoomTest {
    private static final int MOST_ELEMENTS = 7300000 / 512;
    private static final int MOST_OBJECTS = 600000 / 512;
    /** With the calls of a round (some twenty) an object has less than its 512 calls. */
    private static final int ROUNDS = 20;
    private static final int TRIES = 10;

    private long objects = 0;
    private long elements = 0;

    public static void main(String[] args) throws IllegalAccessException {
        BitPlanes x = new BitPlanes(16, 16, 31, 2);
        RoomTest before = roomOf(x);
        Due.answer("a block takes few elements: " + before.elements,
            before.elements <= MOST_ELEMENTS, true);
        Due.answer("a block takes few objects: " + before.objects,
            before.objects <= MOST_OBJECTS, true);
        useAll(x, 7);
        RoomTest after = roomOf(x);
        Due.answer("elements of a block that was used", after.elements, before.elements);
        Due.answer("objects of a block that was used", after.objects, before.objects);
        callsMakeNothing();
        Due.end();
    }

    private static RoomTest roomOf(Object root) throws IllegalAccessException {
        RoomTest room = new RoomTest();
        Set<Object> met = Collections.newSetFromMap(new IdentityHashMap<>());
        ArrayDeque<Object> open = new ArrayDeque<>();
        open.add(root);
        while (!open.isEmpty()) {
            Object one = open.remove();
            if (met.add(one)) {
                room.objects++;
                room.count(one, open);
            }
        }
        return room;
    }

    private void count(Object one, ArrayDeque<Object> open) throws IllegalAccessException {
        if (one.getClass().isArray()) {
            elements += Array.getLength(one);
            return;
        }
        for (Class<?> type = one.getClass(); type != Object.class; type = type.getSuperclass()) {
            for (Field field : type.getDeclaredFields()) {
                if (!Modifier.isStatic(field.getModifiers())) {
                    elements++;
                    meet(one, field, open);
                }
            }
        }
    }

    private static void meet(Object one, Field field, ArrayDeque<Object> open)
            throws IllegalAccessException {
        field.setAccessible(true);
        if (!field.getType().isPrimitive() && field.get(one) != null) {
            open.add(field.get(one));
        }
    }

    private static long useAll(BitPlanes x, int v) {
        long sum = x.paint(v, 97) + x.put(3, 4, -v);
        sum += x.encode() + x.bits() + x.bit(5, 1);
        sum += x.length(2) + x.distortion(1) + x.kind(0) + (x.terminated(0) ? 1 : 0);
        sum += x.feed(1) + x.pass(4000) + x.turn(0) + x.turn(0);
        sum += x.decode(15, 43) + x.at(1, 1) + x.known(1, 1) + x.told(4);
        x.clear();
        return sum;
    }

    /** The machine makes some bytes of its own now and then: so the least of several tries counts. */
    private static void callsMakeNothing() {
        if (!(ManagementFactory.getThreadMXBean() instanceof com.sun.management.ThreadMXBean counter)) {
            return;
        }
        long least = Long.MAX_VALUE;
        for (int i = 0; i < TRIES; i++) {
            BitPlanes x = new BitPlanes(16, 16, 31, 2);
            long before = counter.getCurrentThreadAllocatedBytes();
            for (int round = 0; round < ROUNDS; round++) {
                useAll(x, round);
            }
            least = Math.min(least, counter.getCurrentThreadAllocatedBytes() - before);
        }
        Due.answer("bytes that calls make", least, 0);
    }
}
