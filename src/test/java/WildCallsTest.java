import java.lang.reflect.InvocationTargetException;
import java.lang.reflect.Method;
import java.lang.reflect.Modifier;
import java.util.Arrays;
import java.util.Comparator;
import java.util.NoSuchElementException;
import java.util.Random;
import java.util.Set;

/** Any numbers in any state: no call throws but those that the document says so of, and what it says. */
public final class WildCallsTest {
    private static final Set<String> MAY_THROW = Set.of("rule", "pay", "money", "position", "equity");
    private static final int[] EDGES = {Integer.MIN_VALUE, Integer.MIN_VALUE + 1, -1000001, -2, -1, 0, 1, 2, 3, 4, 5,
        6, 7, 8, 11, 12, 13, 50, 51, 60, 80, 100, 120, 149, 150, 151, 600, 601, 700, 10000, 10001, 1000000,
        1000001, Integer.MAX_VALUE - 1, Integer.MAX_VALUE};

    private WildCallsTest() {
    }

    public static void main(String[] args) throws IllegalAccessException {
        Method[] face = Arrays.stream(GrainPit.class.getDeclaredMethods())
                .filter(m -> Modifier.isPublic(m.getModifiers()))
                .sorted(Comparator.comparing(Method::getName)).toArray(Method[]::new);
        Random random = new Random(11);
        for (int run = 0; run < 400; run++) {
            GrainPit pit = new GrainPit();
            for (int members = random.nextInt(13); members > 0; members--) {
                pit.member();
            }
            for (int i = 0; i < 480; i++) {
                call(random, pit, face[random.nextInt(face.length)]);
            }
        }
        Check.finish("WildCallsTest");
    }

    private static void call(Random random, GrainPit pit, Method method) throws IllegalAccessException {
        Object[] given = new Object[method.getParameterCount()];
        for (int i = 0; i < given.length; i++) {
            boolean flag = method.getParameterTypes()[i] == boolean.class;
            given[i] = flag ? (Object) random.nextBoolean() : (Object) number(random);
        }
        try {
            method.invoke(pit, given);
        } catch (InvocationTargetException e) {
            boolean due = e.getCause() instanceof NoSuchElementException && MAY_THROW.contains(method.getName());
            Check.is(method.getName() + Arrays.toString(given) + " threw " + e.getCause(), due, true);
        }
    }

    private static int number(Random random) {
        int dice = random.nextInt(10);
        return dice < 6 ? random.nextInt(7) : dice < 9 ? EDGES[random.nextInt(EDGES.length)] : random.nextInt();
    }
}
