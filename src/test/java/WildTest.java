import java.lang.reflect.InvocationTargetException;
import java.lang.reflect.Method;
import java.lang.reflect.Modifier;
import java.util.Arrays;
import java.util.Comparator;
import java.util.NoSuchElementException;
import java.util.Random;

/** Wild arguments in wild states: only led throws, and only by its own word; like calls give like answers. */
public final class WildTest {
    private static final int[] EDGES = {Integer.MIN_VALUE, -2, -1, 0, 1, 2, 3, 4, 5, 6, 7, 8, 9, 16, 20, 21, 99, 100,
        899, 900, 901, 999, 65536, 65537, Integer.MAX_VALUE};

    /** The least and the greatest duchy, one with all at its edges, a faulty one, and none. */
    private static final String[] TEXTS = {"", Check.BASE, TextEdges.FULL, Texts.PLAIN + Texts.commons(1),
        Texts.duchy(1, 100, 100, 100) + Texts.men("duke 99 9", "freak 99 0", "lady 0 0", "common 99 9", "duke 0 0")
            + Texts.owes("a b 99 0", "b a 99 0", "a c 99 0", "c d 99 1", "d e 99 0", "e a 99 2", "b c 1 0")
            + Texts.rumours("a b 99 0", "b a 1 1", "c a 99 0", "e d 2 0") + Texts.doors(0, 40, 1, 39)
            + Texts.invited("a p", "b q", "c r", "e s") + Texts.reads("a 40", "b 0", "c 1", "e 1"),
        TextEdges.FULL + ";read a 0"};

    private WildTest() {
    }

    public static void main(String[] args) throws IllegalAccessException {
        Method[] face = face();
        for (int seed = 0; seed < 400; seed++) {
            AntlerYear x = new AntlerYear();
            AntlerYear twin = new AntlerYear();
            Random random = new Random(seed);
            for (int i = 0; i < 360; i++) {
                if (i % 180 == 0) {
                    String text = TEXTS[random.nextInt(TEXTS.length)];
                    Check.due("told alike", Check.tell(x, text), Check.tell(twin, text));
                }
                Method call = face[random.nextInt(face.length)];
                Object[] with = arguments(call, random);
                Object got = answer(x, call, with);
                Object again = answer(twin, call, with);
                Check.due(call.getName() + Arrays.toString(with) + " like its twin", got.equals(again), true);
            }
        }
        Check.end();
    }

    private static Method[] face() {
        return Arrays.stream(AntlerYear.class.getDeclaredMethods()).filter(m -> Modifier.isPublic(m.getModifiers()))
            .sorted(Comparator.comparing(Method::getName)).toArray(Method[]::new);
    }

    private static Object[] arguments(Method call, Random random) {
        Class<?>[] types = call.getParameterTypes();
        Object[] with = new Object[types.length];
        for (int i = 0; i < types.length; i++) {
            int edge = EDGES[random.nextInt(EDGES.length)];
            with[i] = types[i] == boolean.class ? (Object) random.nextBoolean()
                : (Object) (random.nextInt(3) == 0 ? edge : random.nextInt(5));
        }
        return with;
    }

    private static Object answer(AntlerYear x, Method call, Object[] with) throws IllegalAccessException {
        try {
            return call.invoke(x, with);
        } catch (InvocationTargetException e) {
            boolean own = e.getCause() instanceof NoSuchElementException && call.getName().equals("led");
            Check.due(call.getName() + Arrays.toString(with) + " threw " + e.getCause(), own, true);
            return "threw";
        }
    }
}
