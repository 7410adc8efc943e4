import java.lang.management.ManagementFactory;
import java.util.ArrayList;
import java.util.Arrays;
import java.util.IdentityHashMap;
import java.util.List;
import java.util.Map;
import java.lang.reflect.Array;
import java.lang.reflect.Field;
import java.lang.reflect.Modifier;

/** An object makes its rows in the constructor; no call makes an object or an array after that. */
public final class RoomTest {
    private static final int MOST_OBJECTS = 1000, MOST_ELEMENTS = 20000, MOST_BYTES_OF_CALLS = 20000;

    private static long elements = 0;

    public static void main(String[] args) throws Exception {
        SteeredClaims s = new SteeredClaims();
        Map<Object, Boolean> seen = new IdentityHashMap<>();
        count(s, seen);
        boolean fine = seen.size() <= MOST_OBJECTS && elements <= MOST_ELEMENTS;
        if (!fine) {
            System.out.println("an object makes " + seen.size() + " objects with " + elements + " fields and elements");
        }
        // Once without counting, for what the machine makes when a call is used for the first time.
        calls(new SteeredClaims());
        com.sun.management.ThreadMXBean bean = (com.sun.management.ThreadMXBean) ManagementFactory.getThreadMXBean();
        long thread = Thread.currentThread().getId();
        long before = bean.getThreadAllocatedBytes(thread);
        calls(s);
        long made = bean.getThreadAllocatedBytes(thread) - before;
        if (made > MOST_BYTES_OF_CALLS) {
            System.out.println("the calls make " + made + " bytes");
            fine = false;
        }
        if (!fine) {
            System.exit(1);
        }
    }

    private static void write(SteeredClaims s, String text) {
        s.wipe();
        for (int i = 0; i < text.length(); i++) {
            s.type(text.charAt(i));
        }
    }

    private static void calls(SteeredClaims s) {
        write(s, "y;Saxy");
        s.function(2, 1);
        write(s, "axSy=Saxy");
        s.claim();
        s.prove();
        write(s, "aaxaxaxxaxaxaxx=axaxaaxxaxaxaxx");
        s.claim();
        for (int n = 0; n < 60; n++) {
            s.prove();
            s.steered(-9);
            s.normal(n % 2, -9);
            s.counter(0);
            s.tested(0, 0);
            s.general(0, 0);
            s.common(0);
        }
    }

    private static void count(Object root, Map<Object, Boolean> seen) throws Exception {
        List<Object> open = new ArrayList<>(Arrays.asList(root));
        while (!open.isEmpty()) {
            Object next = open.remove(open.size() - 1);
            if (next == null || seen.put(next, true) != null) {
                continue;
            }
            Class<?> type = next.getClass();
            if (type.isArray()) {
                elements += Array.getLength(next);
                for (int i = 0; i < Array.getLength(next) && !type.getComponentType().isPrimitive(); i++) {
                    open.add(Array.get(next, i));
                }
                continue;
            }
            for (Field field : type.getDeclaredFields()) {
                if (!Modifier.isStatic(field.getModifiers())) {
                    elements++;
                    field.setAccessible(true);
                    if (!field.getType().isPrimitive()) {
                        open.add(field.get(next));
                    }
                }
            }
        }
    }
}
