import java.lang.management.ManagementFactory;
import java.lang.management.ThreadMXBean;
import java.lang.reflect.Array;
import java.lang.reflect.Field;
import java.lang.reflect.Modifier;
import java.util.ArrayDeque;
import java.util.Collections;
import java.util.Deque;
import java.util.IdentityHashMap;
import java.util.Set;

/** All calls of one run live in one room: an object is small, and its calls make nothing more. */
public final class RoomTest {
    private static final int MOST_CELLS = 40_000;
    private static final int MOST_OBJECTS = 100;

    public static void main(String[] args) throws IllegalAccessException {
        ofOneObject();
        ofItsCalls();
        Check.end();
    }

    private static void ofOneObject() throws IllegalAccessException {
        Check.sentence("some 600,000 objects and arrays, 7.3 million fields and elements in all");
        Set<Object> seen = Collections.newSetFromMap(new IdentityHashMap<>());
        Deque<Object> open = new ArrayDeque<>();
        open.add(new FlateFilter(4000));
        long cells = 0;
        while (!open.isEmpty()) {
            Object one = open.poll();
            if (!seen.add(one)) {
                continue;
            }
            if (one.getClass().isArray()) {
                cells += Array.getLength(one);
                continue;
            }
            for (Field field : one.getClass().getDeclaredFields()) {
                if (Modifier.isStatic(field.getModifiers())) {
                    continue;
                }
                cells++;
                field.setAccessible(true);
                Object part = field.getType().isPrimitive() ? null : field.get(one);
                if (part != null) {
                    open.add(part);
                }
            }
        }
        Check.yes("objects: " + seen.size(), seen.size() <= MOST_OBJECTS);
        Check.yes("fields and elements: " + cells, cells <= MOST_CELLS);
    }

    private static void ofItsCalls() {
        Check.sentence("make rows in constructors and use them again");
        ThreadMXBean bean = ManagementFactory.getThreadMXBean();
        if (!(bean instanceof com.sun.management.ThreadMXBean counter)) {
            return;
        }
        FlateFilter x = new FlateFilter(4000);
        for (byte b : Check.text("abracadabra abracadabra abracadabra")) {
            x.add(b);
        }
        long least = Long.MAX_VALUE;
        for (int round = 0; round < 5; round++) {
            long before = counter.getCurrentThreadAllocatedBytes();
            calls(x);
            least = Math.min(least, counter.getCurrentThreadAllocatedBytes() - before);
        }
        Check.yes("bytes made by some forty calls: " + least, least < 500);
    }

    private static void calls(FlateFilter x) {
        x.predictor(15, 1, 8, 5);
        for (int kind = 0; kind <= 4; kind++) {
            for (int level = 0; level <= 3; level++) {
                x.pack(kind, level);
            }
            x.unpack(kind);
        }
        x.predictor(0, 1, 8, 5);
        x.pack(2, 0);
        x.chain(-1);
        x.chain(0);
        x.unpack(2);
        x.chain(-1);
        x.sum(0);
        x.sum(1);
        x.table(0x1234);
        x.differs();
        x.cell(1);
        x.out(0);
    }
}
