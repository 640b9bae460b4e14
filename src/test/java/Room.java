import java.lang.management.ManagementFactory;
import java.lang.reflect.Array;
import java.lang.reflect.Field;
import java.lang.reflect.Modifier;
import java.util.ArrayDeque;
import java.util.Deque;
import java.util.IdentityHashMap;
import java.util.Map;

/** All calls of a run live in one room: an object is small, and its calls make nothing. */
public final class Room {
    private static final long MOST_OBJECTS = 200;
    private static final long MOST_ELEMENTS = 40000;
    private static int wrong = 0;

    private Room() {
    }

    public static void main(String[] args) throws Exception {
        for (int a = 2; a <= 5; a++) {
            small(new OneLetterWrong(a, 8), a);
        }
        dearestCalls();
        if (wrong > 0) {
            System.exit(1);
        }
        System.out.println("the room is kept small");
    }

    private static void need(boolean so, String what) {
        if (!so) {
            wrong++;
            System.out.println(what);
        }
    }

    private static void small(Object root, int letters) throws Exception {
        Map<Object, Boolean> seen = new IdentityHashMap<>();
        Deque<Object> open = new ArrayDeque<>();
        open.add(root);
        long elements = 0;
        while (!open.isEmpty()) {
            Object one = open.pop();
            if (seen.put(one, true) != null) {
                continue;
            }
            if (one.getClass().isArray()) {
                elements += Array.getLength(one);
                for (int i = 0; !one.getClass().getComponentType().isPrimitive() && i < Array.getLength(one); i++) {
                    open.add(Array.get(one, i));
                }
                continue;
            }
            for (Field f : one.getClass().getDeclaredFields()) {
                if (Modifier.isStatic(f.getModifiers())) {
                    continue;
                }
                elements++;
                f.setAccessible(true);
                if (!f.getType().isPrimitive() && f.get(one) != null) {
                    open.add(f.get(one));
                }
            }
        }
        need(seen.size() <= MOST_OBJECTS, "of " + letters + " letters: " + seen.size() + " objects");
        need(elements <= MOST_ELEMENTS, "of " + letters + " letters: " + elements + " fields and elements");
    }

    /** The same calls twice: what the machine itself makes at a first time doesn't count. */
    private static void dearestCalls() {
        com.sun.management.ThreadMXBean bean = (com.sun.management.ThreadMXBean) ManagementFactory.getThreadMXBean();
        long id = Thread.currentThread().getId();
        long made = Long.MAX_VALUE;
        for (int round = 0; round < 3; round++) {
            OneLetterWrong x = new OneLetterWrong(2, 8);
            Tape.lay(x, "may not place = last or hand > 5; weight place + 1; book abababab 3; road 0 to 8; road 1 to 7;");
            long before = bean.getThreadAllocatedBytes(id);
            calls(x);
            made = Math.min(made, bean.getThreadAllocatedBytes(id) - before);
        }
        need(made < 1000, "400 calls made " + made + " bytes");
    }

    private static void calls(OneLetterWrong x) {
        x.text();
        x.by(0);
        x.filled(0);
        x.log(8);
        for (int i = 0; i < 15; i++) {
            x.put(i * 17, 1 + i % 9);
        }
        for (int i = 0; i < 15; i++) {
            x.said(i % 9, i * 3, i);
            x.bars(i, i + 1, 8);
            x.ways(i, i + 1, 8);
            x.row(i, i + 2, 8, 7);
            x.heard(i, 8, -1);
            x.odds(i, 8, 0, 1);
            x.road(i, i + 1, 0);
            x.fits(i, 0, i + 1, 1, -1);
            x.tree(i % 2);
            x.shares(0, 1, 4);
            x.near(i, 4, -1);
            x.apart(i % 9);
            x.broke(99, 1);
            x.message(i, i, 8);
            x.feed(i, i, i, i, i);
            x.end(0);
            x.text();
            x.fault(0);
            x.book(i);
            x.about(i);
            x.image();
            x.take(i * 17);
            x.back();
            x.by(i % 2 - 1);
        }
    }
}
