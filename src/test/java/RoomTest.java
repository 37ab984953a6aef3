import java.lang.management.ManagementFactory;
import java.lang.reflect.Array;
import java.lang.reflect.Field;
import java.lang.reflect.Modifier;
import java.util.IdentityHashMap;
import java.util.Map;

/** All calls of a run share one room: an object is small when made, and its calls make nothing more. */
public final class RoomTest {
    private RoomTest() { }

    public static void main(String[] args) throws Exception {
        Map<Object, Boolean> seen = new IdentityHashMap<>();
        long elements = measure(new LanternPeople(), seen);
        System.out.println("a new object: " + seen.size() + " objects and arrays, " + elements + " fields and elements");
        Check.due("objects and arrays of a new object, at most 100", seen.size() <= 100, true);
        Check.due("fields and elements of a new object, at most 10,000", elements <= 10_000, true);
        callsMakeNothing();
        Check.end();
    }

    /** Fields and elements of an object and all that it holds. */
    private static long measure(Object x, Map<Object, Boolean> seen) throws Exception {
        if (x == null || seen.put(x, true) != null) {
            return 0;
        }
        if (x.getClass().isArray()) {
            return Array.getLength(x);
        }
        long sum = 0;
        for (Field field : x.getClass().getDeclaredFields()) {
            if (!Modifier.isStatic(field.getModifiers())) {
                sum++;
                if (!field.getType().isPrimitive()) {
                    field.setAccessible(true);
                    sum += measure(field.get(x), seen);
                }
            }
        }
        return sum;
    }

    private static void callsMakeNothing() {
        com.sun.management.ThreadMXBean bean = (com.sun.management.ThreadMXBean) ManagementFactory.getThreadMXBean();
        long thread = Thread.currentThread().getId();
        LanternPeople x = Check.village(SceneTest.RING + "washes=20;fades=if glow<5 then 1 else joins+1;");
        int[] five = {0x73656564, 0x20313b73, 0x65656420, 0x323b7365, 0x65642033};
        round(x, five);
        long before = bean.getThreadAllocatedBytes(thread);
        for (int i = 0; i < 100; i++) {
            round(x, five);
        }
        for (int i = 0; i < 100; i++) {
            readAnother(x);
        }
        long bytes = bean.getThreadAllocatedBytes(thread) - before;
        // What is asked of the bean itself makes a little.
        Check.due("bytes made by 4,900 calls are few: " + bytes, bytes < 10_000, true);
    }

    private static void round(LanternPeople x, int[] five) {
        for (int what = 0; what < 18; what++) {
            x.count(what);
        }
        x.show(3, 1);
        x.wash(0);
        x.go(0, 2);
        x.weeks(2);
        x.hold(1);
        x.bestRow(0);
        x.fullRows();
        x.rings();
        x.longest(0);
        x.way(0, 2);
        x.mend(0);
        x.game(0);
        x.best(0, 0);
        x.where(0, 0);
        x.worth(60);
        x.plainIn(0);
        x.turns(0);
        x.then(0, 60);
        x.paidIn(60);
        x.year(0, 60, 20);
        x.tell(0, 1, true);
        x.which(1, 0);
        x.look(1, 1);
        x.forget();
        x.undo();
        x.restore(1);
        x.feed(five[0], five[1], five[2], five[3], five[4]);
        x.read();
        x.place();
    }

    /** "person p 1;seed 9;  ", which has no fault. */
    private static void readAnother(LanternPeople x) {
        x.feed(0x70657273, 0x6f6e2070, 0x20313b73, 0x65656420, 0x393b2020);
        Check.due("read", x.read(), 0);
    }
}
