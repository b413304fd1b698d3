import java.lang.reflect.Array;
import java.lang.reflect.Field;
import java.lang.reflect.Modifier;
import java.util.IdentityHashMap;
import java.util.Map;

/**
 * All calls of one run share some 600,000 objects and arrays and 7.3 million fields and elements. LanguageRules tells
 * that no call makes an object or an array; here is counted what the constructor makes.
 */
final class RoomTest {
    private static final int MOST_OBJECTS = 100;
    private static final int MOST_ELEMENTS = 10000;

    private final Map<Object, Boolean> seen = new IdentityHashMap<>();
    private int elements = 0;

    private RoomTest() {
    }

    static void run(Check check) throws IllegalAccessException {
        check.about("the room of one object");
        ConstrainedCoder fresh = new ConstrainedCoder();
        check.holds("objects and arrays: " + count(fresh).seen.size(), count(fresh).seen.size() <= MOST_OBJECTS);
        check.holds("fields and elements: " + count(fresh).elements, count(fresh).elements <= MOST_ELEMENTS);
        // A graph and a word alone need as much, so the counting does not pass the rows by.
        check.holds("the rows are counted", count(fresh).elements > 3 * 64 + 40);
    }

    private static RoomTest count(Object object) throws IllegalAccessException {
        RoomTest room = new RoomTest();
        room.visit(object);
        return room;
    }

    private void visit(Object object) throws IllegalAccessException {
        if (object == null || object instanceof String || seen.put(object, true) != null) {
            return;
        }
        if (object.getClass().isArray()) {
            elements += Array.getLength(object);
            for (int i = 0; !object.getClass().getComponentType().isPrimitive() && i < Array.getLength(object); i++) {
                visit(Array.get(object, i));
            }
            return;
        }
        for (Field field : object.getClass().getDeclaredFields()) {
            if (!Modifier.isStatic(field.getModifiers())) {
                elements++;
                if (!field.getType().isPrimitive()) {
                    field.setAccessible(true);
                    visit(field.get(object));
                }
            }
        }
    }
}
