import com.sun.management.ThreadMXBean;
import java.lang.management.ManagementFactory;
import java.lang.reflect.Array;
import java.lang.reflect.Field;
import java.lang.reflect.Modifier;
import java.util.ArrayDeque;
import java.util.Collections;
import java.util.Deque;
import java.util.IdentityHashMap;
import java.util.Set;

/**
 * All calls of one run live in one room, so a new object must be small enough to be made by every
 * call of a run, and no call but the constructor may make anything.
 */
public final class RoomTest extends Due {
    private static final int CALLS = 512;
    private static final int OBJECTS = 600_000;
    private static final int PLACES = 7_300_000;

    /** Looking at the count may itself make a little; one row of any use is longer. */
    private static final long NOTHING = 64;

    private static int objects = 0;
    private static int places = 0;

    private static boolean isOfNumbers(Class<?> type) {
        return type.isArray() && type.getComponentType().isPrimitive();
    }

    private static void reach(Object found, Set<Object> seen, Deque<Object> open) {
        if (found != null && seen.add(found)) {
            open.push(found);
        }
    }

    private static void countArray(Object array, Set<Object> seen, Deque<Object> open) {
        int length = Array.getLength(array);
        places += length;
        for (int i = 0; i < length && !isOfNumbers(array.getClass()); i++) {
            reach(Array.get(array, i), seen, open);
        }
    }

    private static void countFields(Object object, Set<Object> seen, Deque<Object> open)
            throws IllegalAccessException {
        for (Field field : object.getClass().getDeclaredFields()) {
            if (Modifier.isStatic(field.getModifiers())) {
                continue;
            }
            places++;
            field.setAccessible(true);
            if (!field.getType().isPrimitive()) {
                reach(field.get(object), seen, open);
            }
        }
    }

    private static void count(Object root) throws IllegalAccessException {
        Set<Object> seen = Collections.newSetFromMap(new IdentityHashMap<>());
        Deque<Object> open = new ArrayDeque<>();
        reach(root, seen, open);
        while (!open.isEmpty()) {
            Object next = open.pop();
            objects++;
            if (next.getClass().isArray()) {
                countArray(next, seen, open);
            } else {
                countFields(next, seen, open);
            }
        }
    }

    private static void newObjectIsSmall() throws IllegalAccessException {
        sentence("a run of constructors alone");
        count(new PointsToRounds());
        due(objects + " objects each", objects <= OBJECTS / CALLS ? 1 : 0, 1);
        due(places + " places each", places <= PLACES / CALLS ? 1 : 0, 1);
    }

    private static void ask(PointsToRounds x) {
        for (int i = 0; i < 10; i++) {
            x.points(i, -1, 5);
            x.inField(i, i % 8);
            x.element(i);
            x.inStatic(i);
            x.reached(i);
            x.may(20 + i);
            x.alias(0, 1, i, 2);
            x.rounds();
            x.when(0, i, i);
            x.run(i, 300);
            x.met(i, 1);
            x.ran(i);
            x.mode(i % 2);
        }
    }

    private static void everyCall(PointsToRounds x) {
        ask(x);
        x.clear();
        x.cls(-1);
        x.cls(0);
        x.field(1);
        x.method(0, 0);
        x.method(1, 1);
        for (int kind = -1; kind <= 10; kind++) {
            x.statement(0, kind, 0, 0, 0, 0, 0);
            x.statement(1, kind, 1, 1, 0, 1, 6);
        }
        ask(x);
        x.clear();
    }

    private static void callsMakeNothing() {
        sentence("no other call makes an object");
        if (!(ManagementFactory.getThreadMXBean() instanceof ThreadMXBean threads)) {
            return;
        }
        everyCall(full());
        long self = Thread.currentThread().getId();
        threads.getThreadAllocatedBytes(self);
        PointsToRounds x = full();
        long before = threads.getThreadAllocatedBytes(self);
        everyCall(x);
        long made = threads.getThreadAllocatedBytes(self) - before;
        due(made + " bytes", made <= NOTHING ? 1 : 0, 1);
    }

    public static void main(String[] args) throws IllegalAccessException {
        newObjectIsSmall();
        callsMakeNothing();
        end();
    }
}
