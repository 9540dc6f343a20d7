import java.lang.management.ManagementFactory;
import java.lang.reflect.Array;
import java.lang.reflect.Field;
import java.lang.reflect.Modifier;
import java.util.ArrayDeque;
import java.util.IdentityHashMap;
import java.util.Map;

/** What an object takes of the room, that its calls take none, and that the dearest run of calls ends in time. */
public final class RoomTest {
    private static final String GREATEST = "row cccccccc; row cdcccccc; row cccpcccc; row cccccccc; row cccccccc;"
        + " row cccccccc; sign sa xox oxo xox; sign sb xxx oxo ooo; sign sc xoo xoo xxx; sign sd ooo oxo ooo;"
        + " window a 0 7 3; window b 1 6 4; window c 0 4 5; window d 2 7 6; talk a b; rain 40 3; seed 77; grows ="
        + " if tall < beside then 3 + (((wet*2+sun*3-week/7)*2-across*down+food)/3+beside*2-tall*3)/5 else"
        + " if 40 < tall*(1+2*3) then 0 - 1 else if beside*2+1<sun*3-1 then wet*2+1 else"
        + " if sun*2+3<week*2+1-across*down then beside-tall+1 else sun + food - week / 30 + (tall-beside)*2/3;";

    private RoomTest() { }

    public static void main(String[] args) throws IllegalAccessException {
        size();
        long start = System.nanoTime();
        long before = allocated();
        MownLawn lawn = new MownLawn();
        long made = allocated();
        long sum = dearestRun(lawn);
        long left = allocated() - made;
        System.out.println("an object: " + (made - before) + " bytes; its calls: " + left + " bytes; "
            + (System.nanoTime() - start) / 1_000_000 + " ms; sum " + sum);
        // The tests' own texts and what the machine itself makes are in it too.
        Check.due("bytes made by calls are few", left < 300_000, true);
        Check.due("the dearest run ends within a minute", System.nanoTime() - start < 60_000_000_000L, true);
        Check.end();
    }

    private static long allocated() {
        com.sun.management.ThreadMXBean threads =
            (com.sun.management.ThreadMXBean) ManagementFactory.getThreadMXBean();
        return threads.getThreadAllocatedBytes(Thread.currentThread().getId());
    }

    private static long dearestRun(MownLawn x) {
        Check.feed(x, GREATEST);
        long sum = x.read();
        Check.due("the greatest lawn", sum, 0);
        for (int i = 0; i < 30; i++) {
            sum += x.cut(i % 4, i % 6, i % 4) + x.weeks(i % 2 == 0 ? 60 : 1) + x.nourish(i % 8, i % 6);
            sum += x.gone(0, 0, 0) + x.when(1, 1, 1, 59, 60) + x.care(i % 4, i % 6, i % 4) + x.level() + x.quiet();
            sum += x.knows(3, 2) + x.year(0, 0, 60, 20) + x.all(60, 2, 0) + x.then(0, 0, 60);
            sum += x.blades(0) + x.sure(0, 0) + x.ask(0) + (x.hold(i % 3) ? 1 : 0);
        }
        for (int i = 0; i < 10; i++) {
            sum += x.undo() ? 1 : 0;
            sum += x.blades(0);
        }
        return sum;
    }

    /** Objects and arrays, and their fields and elements, of one new object. */
    private static void size() throws IllegalAccessException {
        Map<Object, Boolean> met = new IdentityHashMap<>();
        ArrayDeque<Object> open = new ArrayDeque<>();
        MownLawn lawn = new MownLawn();
        open.add(lawn);
        met.put(lawn, true);
        long elements = 0;
        while (!open.isEmpty()) {
            Object one = open.remove();
            if (one.getClass().isArray()) {
                elements += Array.getLength(one);
                for (int i = 0; i < Array.getLength(one) && !one.getClass().getComponentType().isPrimitive(); i++) {
                    look(Array.get(one, i), met, open);
                }
                continue;
            }
            for (Field field : one.getClass().getDeclaredFields()) {
                if (!Modifier.isStatic(field.getModifiers())) {
                    elements++;
                    if (!field.getType().isPrimitive()) {
                        field.setAccessible(true);
                        look(field.get(one), met, open);
                    }
                }
            }
        }
        System.out.println("a new object: " + met.size() + " objects and arrays, " + elements + " fields and elements");
        Check.due("few objects", met.size() < 400, true);
        Check.due("few elements", elements < 50_000, true);
    }

    private static void look(Object found, Map<Object, Boolean> met, ArrayDeque<Object> open) {
        if (found != null && met.put(found, true) == null) {
            open.add(found);
        }
    }
}
