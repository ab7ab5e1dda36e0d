import java.lang.reflect.Array;
import java.lang.reflect.Field;
import java.lang.reflect.Modifier;
import java.util.ArrayDeque;
import java.util.Collections;
import java.util.IdentityHashMap;
import java.util.Set;

/** All that a shelf is made of is made with it: a room of calls, each of which makes one, holds it. */
public final class RoomTest {
    private static final int CALLS = 512;
    private static final int OBJECTS_OF_ROOM = 600_000;
    private static final int ELEMENTS_OF_ROOM = 7_300_000;
    private static final Answers answers = new Answers();

    public static void main(String[] args) throws IllegalAccessException {
        ModuleShelf shelf = new ModuleShelf();
        Set<Object> before = reached(shelf);
        answers.scene("a new shelf");
        answers.due("objects fit", (long) before.size() * CALLS < OBJECTS_OF_ROOM ? 1 : 0, 1);
        answers.due("elements fit", elementsOf(before) * CALLS < ELEMENTS_OF_ROOM ? 1 : 0, 1);
        answers.scene("a shelf that was used");
        use(shelf);
        Set<Object> after = reached(shelf);
        answers.due("objects", after.size(), before.size());
        after.removeAll(before);
        answers.due("objects that are new", after.size(), 0);
        answers.end();
    }

    /** Looks at every promise's call, the dearest ones among them. */
    private static void use(ModuleShelf shelf) {
        Drafts.compile(shelf, 0, 3, "0: " + Scenes.FOURTEEN, "1: " + Scenes.FOURTEEN);
        Drafts.compile(shelf, 1, 2, "2: IF ARG.0 CALL.1.0 SUB ARG.0 NUM.1 VAR.0.2 SET.1 CALL.0.0");
        shelf.load(1);
        shelf.run(1, 0, 3, 4);
        shelf.run(1, 0, 9, 4);
        Look.at(shelf);
        Look.goingOn(shelf);
    }

    private static Set<Object> reached(ModuleShelf shelf) throws IllegalAccessException {
        Set<Object> seen = Collections.newSetFromMap(new IdentityHashMap<>());
        ArrayDeque<Object> open = new ArrayDeque<>();
        open.add(shelf);
        while (!open.isEmpty()) {
            Object next = open.remove();
            if (seen.add(next)) {
                addParts(open, next);
            }
        }
        return seen;
    }

    private static void addParts(ArrayDeque<Object> open, Object object) throws IllegalAccessException {
        if (object instanceof Object[] array) {
            for (Object element : array) {
                addOne(open, element);
            }
        } else if (!object.getClass().isArray()) {
            for (Field field : object.getClass().getDeclaredFields()) {
                if (!Modifier.isStatic(field.getModifiers()) && !field.getType().isPrimitive()) {
                    field.setAccessible(true);
                    addOne(open, field.get(object));
                }
            }
        }
    }

    private static void addOne(ArrayDeque<Object> open, Object object) {
        if (object != null) {
            open.add(object);
        }
    }

    private static long elementsOf(Set<Object> objects) {
        long sum = 0;
        for (Object object : objects) {
            sum += object.getClass().isArray() ? Array.getLength(object) : object.getClass().getDeclaredFields().length;
        }
        return sum;
    }
}
