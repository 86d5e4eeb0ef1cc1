import java.lang.management.ManagementFactory;
import java.lang.reflect.Array;
import java.lang.reflect.Field;
import java.lang.reflect.Modifier;
import java.util.ArrayDeque;
import java.util.Collections;
import java.util.Deque;
import java.util.IdentityHashMap;
import java.util.Set;

/** All calls of one run live in one room: what a wheel is made of is made once, in its constructor. */
public final class RoomTests {
    private static final int MOST_OBJECTS = 600;
    private static final int MOST_ELEMENTS = 15_000;
    // The machine itself may make a little beside what the calls make.
    private static final long MOST_BYTES = 2_000;
    private static final int TURNS = 7;

    private RoomTests() {
    }

    public static void main(String[] arguments) throws IllegalAccessException {
        PromiseWheel wheel = new PromiseWheel();
        int[] fresh = sizeOf(wheel);
        Check.holds("objects of a new wheel: " + fresh[0], fresh[0] <= MOST_OBJECTS);
        Check.holds("elements of a new wheel: " + fresh[1], fresh[1] <= MOST_ELEMENTS);
        useMuch(wheel);
        int[] used = sizeOf(wheel);
        Check.same("objects of a used wheel", used[0], fresh[0]);
        Check.same("elements of a used wheel", used[1], fresh[1]);
        callsMakeNothing();
        Check.finish("RoomTests");
    }

    private static int[] sizeOf(Object root) throws IllegalAccessException {
        Set<Object> seen = Collections.newSetFromMap(new IdentityHashMap<>());
        Deque<Object> open = new ArrayDeque<>();
        seen.add(root);
        open.add(root);
        int elements = 0;
        while (!open.isEmpty()) {
            Object object = open.remove();
            Class<?> type = object.getClass();
            if (type.isArray()) {
                int length = Array.getLength(object);
                elements += length;
                for (int at = 0; at < length && !type.getComponentType().isPrimitive(); at++) {
                    visit(Array.get(object, at), seen, open);
                }
                continue;
            }
            for (Field field : type.getDeclaredFields()) {
                if (Modifier.isStatic(field.getModifiers())) {
                    continue;
                }
                elements++;
                field.setAccessible(true);
                if (!field.getType().isPrimitive()) {
                    visit(field.get(object), seen, open);
                }
            }
        }
        return new int[] {seen.size(), elements};
    }

    private static void visit(Object object, Set<Object> seen, Deque<Object> open) {
        if (object != null && seen.add(object)) {
            open.add(object);
        }
    }

    /** Some 500 calls, each method's among them. */
    private static void useMuch(PromiseWheel wheel) {
        for (int promise = 0; promise < 40; promise++) {
            wheel.give(1 + promise * 12, 3, 99);
        }
        String text = "give 1 0 0;break 7;move 39 9;pass 600;sweep;x";
        for (int turn = 0; turn < TURNS; turn++) {
            for (int at = 0; at < text.length() - turn % 2; at++) {
                wheel.append(text.charAt(at));
            }
            wheel.run();
            wheel.clearText();
            wheel.breakOff(turn);
            wheel.move(39 - turn, 400);
            wheel.take(turn % 2);
            wheel.pass(60);
            wheel.would(600, 2);
            wheel.leastRoom(200);
            wheel.when(39);
            wheel.set(0, 1 + turn);
            wheel.sweep();
            wheel.restore(turn % 2);
            wheel.next(1, 0);
            wheel.stands(3, 0, 0);
            wheel.slot(2, 2, 2);
            wheel.promise(39, 6);
            wheel.call(3, 1);
            wheel.count(2);
            wheel.failure(1);
            wheel.undo();
        }
    }

    private static void callsMakeNothing() {
        if (!(ManagementFactory.getThreadMXBean() instanceof com.sun.management.ThreadMXBean)) {
            return;
        }
        com.sun.management.ThreadMXBean bean =
                (com.sun.management.ThreadMXBean) ManagementFactory.getThreadMXBean();
        long thread = Thread.currentThread().getId();
        useMuch(new PromiseWheel());
        PromiseWheel wheel = new PromiseWheel();
        bean.getThreadAllocatedBytes(thread);
        long before = bean.getThreadAllocatedBytes(thread);
        useMuch(wheel);
        long made = bean.getThreadAllocatedBytes(thread) - before;
        Check.holds("bytes that these calls make: " + made, made <= MOST_BYTES);
    }
}
