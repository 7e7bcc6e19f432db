import java.lang.reflect.Array;
import java.lang.reflect.Field;
import java.lang.reflect.Modifier;
import java.util.Collections;
import java.util.IdentityHashMap;
import java.util.Set;

/** All calls of a run live in one room: an object is made whole by its constructor, and calls add nothing to it. */
public final class RoomTest {
    private static final int MOST_OBJECTS = 60, MOST_ELEMENTS = 4500;

    private int objects = 0;
    private int elements = 0;
    private final Set<Object> seen = Collections.newSetFromMap(new IdentityHashMap<>());

    private RoomTest() { }

    public static void main(String[] args) throws Exception {
        RoomTest fresh = roomOf(new OddBridge());
        RoomTest used = roomOf(Edge.full());
        Due.is(fresh.objects + " objects are few", fresh.objects <= MOST_OBJECTS ? 1 : 0, 1);
        Due.is(fresh.elements + " fields and elements are few", fresh.elements <= MOST_ELEMENTS ? 1 : 0, 1);
        Due.is("objects of a full one that was asked much", used.objects, fresh.objects);
        Due.is("fields and elements of a full one that was asked much", used.elements, fresh.elements);
        Due.end("RoomTest");
    }

    private static RoomTest roomOf(OddBridge x) throws Exception {
        RoomTest room = new RoomTest();
        room.count(x);
        return room;
    }

    private void count(Object o) throws Exception {
        if (o == null || !seen.add(o)) {
            return;
        }
        objects++;
        if (o.getClass().isArray()) {
            elements += Array.getLength(o);
            for (int i = 0; o instanceof Object[] && i < Array.getLength(o); i++) {
                count(Array.get(o, i));
            }
            return;
        }
        for (Field field : o.getClass().getDeclaredFields()) {
            if (!Modifier.isStatic(field.getModifiers())) {
                elements++;
                field.setAccessible(true);
                if (!field.getType().isPrimitive()) {
                    count(field.get(o));
                }
            }
        }
    }
}
