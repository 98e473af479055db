import java.lang.reflect.Array;
import java.lang.reflect.Field;
import java.lang.reflect.Modifier;
import java.util.ArrayDeque;
import java.util.Collections;
import java.util.Deque;
import java.util.IdentityHashMap;
import java.util.Set;

/** What an object is made of stays small and does not grow: all rows are made by the constructor and used again. */
public final class RoomTest {
    private static final Check CHECK = new Check("RoomTest");

    public static void main(String[] args) throws Exception {
        PanNights x = new PanNights();
        long[] room = room(x);
        System.out.println("RoomTest: an object has " + room[0] + " objects, " + room[1] + " fields and elements");
        CHECK.due("few objects", room[0] < 200, true);
        CHECK.due("few elements", room[1] < 10000, true);
        String person = "person needs 1 thirst 9 pride 99 purse 999 strange begins";
        for (int i = 0; i < 4; i++) {
            Cases.tape(x, person + ";" + person + ";wrong 0 9;target 0;rain 50;watch 50");
            x.village();
            Cases.tape(x, "pan 1 if not (wet or who + 1 < 3) and thirst > 2;need 1 if wet");
            x.law();
        }
        long before = allocated();
        for (int i = 0; i < 40; i++) {
            useAll(x);
        }
        CHECK.due("calls make next to nothing", allocated() - before < 40 * 1024, true);
        CHECK.due("as many objects", room(x)[0], room[0]);
        CHECK.due("as many elements", room(x)[1], room[1]);
        CHECK.close();
    }

    private static void useAll(PanNights x) {
        x.wrong(0, 9);
        x.name(0);
        x.give(1, 9);
        x.teach(2, 3);
        x.feud(1, 2);
        x.begin(3, true);
        x.nights(3);
        x.image();
        x.undo();
        x.back();
        x.end(0);
        x.feed(0x02030405, 0, 0, 0, 0);
        x.end(4);
        x.heard(0, true);
        x.ask(0);
        x.fewest(0, 7);
        x.keep(0);
        x.tips(0);
        x.rests(0);
        x.best();
        x.brings(20);
        x.dearest();
        x.ripest();
        x.span(60, true);
        x.trial(60, false);
        x.ends();
        x.led(0, true);
    }

    private static long allocated() {
        return ((com.sun.management.ThreadMXBean) java.lang.management.ManagementFactory.getThreadMXBean()).getCurrentThreadAllocatedBytes();
    }

    /** How many objects and arrays can be reached, and their fields and elements. */
    private static long[] room(Object root) throws Exception {
        Set<Object> seen = Collections.newSetFromMap(new IdentityHashMap<>());
        Deque<Object> open = new ArrayDeque<>();
        open.add(root);
        seen.add(root);
        long cells = 0;
        while (!open.isEmpty()) {
            Object o = open.pop();
            if (o.getClass().isArray()) {
                cells += Array.getLength(o);
                for (int i = 0; i < Array.getLength(o) && !o.getClass().getComponentType().isPrimitive(); i++) {
                    add(Array.get(o, i), seen, open);
                }
                continue;
            }
            for (Class<?> c = o.getClass(); c != Object.class; c = c.getSuperclass()) {
                for (Field f : c.getDeclaredFields()) {
                    if (!Modifier.isStatic(f.getModifiers())) {
                        cells++;
                        f.setAccessible(true);
                        if (!f.getType().isPrimitive()) {
                            add(f.get(o), seen, open);
                        }
                    }
                }
            }
        }
        return new long[] {seen.size(), cells};
    }

    private static void add(Object o, Set<Object> seen, Deque<Object> open) {
        if (o != null && seen.add(o)) {
            open.add(o);
        }
    }
}
