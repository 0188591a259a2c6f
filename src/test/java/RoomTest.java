import java.lang.reflect.Array;
import java.lang.reflect.Field;
import java.lang.reflect.Modifier;
import java.util.ArrayDeque;
import java.util.Collections;
import java.util.Deque;
import java.util.IdentityHashMap;
import java.util.Set;

/**
 * The room that objects take: what can be reached from one is counted. LanguageTest looks that no call
 * makes anything else, but for exceptions.
 */
public final class RoomTest {
    private static final int CALLS = 512;
    private static final int OBJECTS_OF_RUN = 600_000;
    private static final int ELEMENTS_OF_RUN = 7_300_000;

    private int objects = 0;
    private int elements = 0;

    private RoomTest(OnceDisc disc) throws IllegalAccessException {
        Set<Object> seen = Collections.newSetFromMap(new IdentityHashMap<>());
        Deque<Object> waiting = new ArrayDeque<>();
        seen.add(disc);
        waiting.add(disc);
        while (!waiting.isEmpty()) {
            Object next = waiting.remove();
            objects++;
            if (next.getClass().isArray()) {
                countArray(next, seen, waiting);
            } else {
                countFields(next, seen, waiting);
            }
        }
    }

    public static void main(String[] args) throws IllegalAccessException {
        RoomTest fresh = new RoomTest(new OnceDisc());
        Check.isTrue("a run can make " + CALLS + " objects of " + fresh.objects + " parts",
            fresh.objects * CALLS < OBJECTS_OF_RUN);
        Check.isTrue("a run can make " + CALLS + " objects of " + fresh.elements + " elements",
            fresh.elements * CALLS < ELEMENTS_OF_RUN);
        OnceDisc disc = used();
        RoomTest full = new RoomTest(disc);
        // Each call of the run may throw an exception besides.
        Check.isTrue("an object that is used has " + full.objects + " parts", full.objects + CALLS < OBJECTS_OF_RUN / 100);
        Check.isTrue("an object that is used has " + full.elements + " elements", full.elements < ELEMENTS_OF_RUN / 100);
        use(disc);
        RoomTest later = new RoomTest(disc);
        Check.equal("the parts after more calls", later.objects, full.objects);
        Check.equal("the elements after more calls", later.elements, full.elements);
        Check.end();
    }

    private static OnceDisc used() {
        OnceDisc disc = new OnceDisc();
        use(disc);
        return disc;
    }

    /** Calls that keep as many discs as can be kept. */
    private static void use(OnceDisc disc) {
        Check.equal("parse", Check.parse(disc, "disc 96 16;file a;write a 8 1;close;"), 0);
        for (int n = 0; n < 11; n++) {
            disc.write(0, 1, n);
            disc.close();
        }
        disc.saveSnapshot(0);
        disc.saveSnapshot(1);
        disc.undo();
        disc.weakest();
        disc.restoreSnapshot(1);
    }

    private static void follow(Object found, Set<Object> seen, Deque<Object> waiting) {
        if (found != null && seen.add(found)) {
            waiting.add(found);
        }
    }

    private void countArray(Object array, Set<Object> seen, Deque<Object> waiting) {
        int length = Array.getLength(array);
        elements += length;
        for (int i = 0; i < length && !array.getClass().getComponentType().isPrimitive(); i++) {
            follow(Array.get(array, i), seen, waiting);
        }
    }

    private void countFields(Object object, Set<Object> seen, Deque<Object> waiting) throws IllegalAccessException {
        for (Field field : object.getClass().getDeclaredFields()) {
            if (!Modifier.isStatic(field.getModifiers())) {
                elements++;
                field.setAccessible(true);
                if (!field.getType().isPrimitive()) {
                    follow(field.get(object), seen, waiting);
                }
            }
        }
    }
}
