import java.lang.reflect.InvocationTargetException;
import java.lang.reflect.Method;
import java.lang.reflect.Modifier;
import java.util.ArrayList;
import java.util.Comparator;
import java.util.List;
import java.util.Random;

/** Any arguments in any state: no call throws, and two objects with the same calls give the same answers. */
public final class NeverThrowsTest {
    private static final int[] EDGES = {Integer.MIN_VALUE, Integer.MIN_VALUE + 1, -1000, -2, -1, 0, 1, 2, 3, 4, 5, 6, 7, 8, 9,
        20, 21, 30, 31, 59, 60, 61, 99, 100, 200, 1 << 30, Integer.MAX_VALUE - 2, Integer.MAX_VALUE - 1, Integer.MAX_VALUE};
    private static final String[] TEXTS = {"", "row p;", "row abcdefgh;", "row a; row b; row c; sign s xoo ooo ooo;",
        "row abc; row def; row ghi; sign s xoo ooo ooo; window w 0 7 0; grows = 9 / (tall - 20) + beside;",
        "sign s xoo ooo ooo; sign t xxx xxx xxx; sign u ooo ooo ooo; window w 0 7 0; window v 7 7 99; talk w v;",
        "row cccccccc; row cdcccccc; row cccpcccc; row cccccccc; row cccccccc; row cccccccc; sign sa xox oxo xox;"
            + " sign sb xxx oxo ooo; sign sc xoo xoo xxx; sign sd ooo oxo ooo; window a 0 7 3; window b 1 6 4;"
            + " window c 0 4 5; window d 2 7 6; talk a b; talk a c; talk a d; talk b c; talk b d; talk c d;"
            + " rain 40 3; seed 9999; height 99; grows = if tall < beside then wet + food else week / 3 - 1;"
            + " feeds = 9999 * 9999 * sun; fines = 0 - 9999 * 9999 * across;"};

    private NeverThrowsTest() { }

    public static void main(String[] args) throws IllegalAccessException {
        List<Method> face = new ArrayList<>();
        for (Method m : MownLawn.class.getDeclaredMethods()) {
            if (Modifier.isPublic(m.getModifiers())) {
                face.add(m);
            }
        }
        face.sort(Comparator.comparing(Method::getName));
        Random random = new Random(77);
        for (int run = 0; run < 140; run++) {
            MownLawn one = new MownLawn();
            MownLawn other = new MownLawn();
            String text = TEXTS[run % TEXTS.length];
            Check.feed(one, text);
            Check.feed(other, text);
            Check.due("read() of " + text, one.read(), 0);
            Check.due("read() of " + text, other.read(), 0);
            for (int call = 0; call < 400; call++) {
                Method m = face.get(random.nextInt(face.size()));
                Object[] with = new Object[m.getParameterCount()];
                for (int i = 0; i < with.length; i++) {
                    with[i] = random.nextInt(3) > 0 ? random.nextInt(4) : EDGES[random.nextInt(EDGES.length)];
                }
                // A text that is read anew would leave only empty lawns.
                if (!m.getName().equals("read") || random.nextInt(20) == 0) {
                    Check.due(m.getName(), called(m, one, with), called(m, other, with));
                }
            }
        }
        noise(random);
        Check.end();
    }

    private static long called(Method m, MownLawn lawn, Object[] with) throws IllegalAccessException {
        try {
            Object answer = m.invoke(lawn, with);
            return answer instanceof Boolean b ? b ? 1 : 0 : (Integer) answer;
        } catch (InvocationTargetException thrown) {
            Check.due(m.getName() + java.util.Arrays.toString(with) + " threw " + thrown.getCause(), 1, 0);
            return 0;
        }
    }

    /** Tapes of any bytes are refused, in the first token that is none or out of place. */
    private static void noise(Random random) {
        MownLawn lawn = new MownLawn();
        for (int run = 0; run < 2000; run++) {
            int feeds = 1 + random.nextInt(100);
            for (int i = 0; i < feeds; i++) {
                lawn.feed(random.nextInt(), random.nextInt(), random.nextInt(), random.nextInt(), random.nextInt());
            }
            int fault = lawn.read();
            int place = lawn.place();
            Check.due("noise is no text", fault, 1);
            Check.due("its place is on the tape", place >= 0 && place <= 20 * feeds, true);
        }
    }
}
