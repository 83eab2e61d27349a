import java.lang.reflect.Array;
import java.lang.reflect.Field;
import java.lang.reflect.Modifier;
import java.util.IdentityHashMap;
import java.util.Map;
import java.util.TreeMap;

/**
 * Counts what a new object holds, over all classes inside it, and what calls make besides: all of it
 * lives in one room.
 */
public final class SizeTest {
    private static final long MOST = 3200000;

    private final Map<Object, Boolean> seen = new IdentityHashMap<>();
    private final Map<String, Integer> rows = new TreeMap<>();
    private long objects;
    private long elements;
    private long fields;

    public static void main(String[] args) throws IllegalAccessException {
        Tongue t = new Tongue();
        SizeTest before = new SizeTest();
        before.count(t.tongue, "new");
        t.module("f :: Int -> Int\nf 0 = 1\nf 1 = 2\ndata D = A | B Int\n");
        t.ask(1, 2, "(x, set f y, span z 1 3 & label [z]) where {x,y,z free}");
        for (int i = 0; i < 5; i++) {
            t.tongue.next();
            t.show(5, 0);
        }
        SizeTest after = new SizeTest();
        after.count(t.tongue, "used");
        System.out.println(before.objects + " objects, " + before.elements + " elements, " + before.fields + " fields");
        boolean good = before.elements + before.fields <= MOST && after.elements == before.elements
                && after.objects == before.objects;
        if (!good) {
            System.out.println("too many, or other ones than at first: " + after.objects + " objects, "
                    + after.elements + " elements, " + after.fields + " fields; most are " + MOST);
            before.rows.forEach((name, length) -> System.out.println(length + " " + name));
            System.exit(1);
        }
    }

    private void count(Object object, String name) throws IllegalAccessException {
        if (object == null || seen.put(object, true) != null) {
            return;
        }
        objects++;
        Class<?> kind = object.getClass();
        if (kind.isArray()) {
            elements += Array.getLength(object);
            rows.put(name, Array.getLength(object));
            for (int i = 0; i < Array.getLength(object) && !kind.getComponentType().isPrimitive(); i++) {
                count(Array.get(object, i), name + "[" + i + "]");
            }
            return;
        }
        for (Field field : kind.getDeclaredFields()) {
            if (!Modifier.isStatic(field.getModifiers())) {
                fields++;
                field.setAccessible(true);
                if (!field.getType().isPrimitive()) {
                    count(field.get(object), kind.getSimpleName() + "." + field.getName());
                }
            }
        }
    }
}
