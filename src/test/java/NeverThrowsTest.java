import java.lang.reflect.InvocationTargetException;
import java.lang.reflect.Method;
import java.lang.reflect.Modifier;
import java.util.ArrayList;
import java.util.Comparator;
import java.util.List;
import java.util.Random;

/** Any call with any arguments in any state: none throws, all end, and the same calls give the same answers. */
public final class NeverThrowsTest {
    private static final int[] EDGES = {Integer.MIN_VALUE, Integer.MIN_VALUE + 1, -2000000000, -1001, -1000, -41, -40,
        -39, -3, -2, -1, 0, 1, 2, 3, 5, 6, 7, 8, 9, 10, 15, 16, 17, 19, 20, 21, 40, 41, 59, 60, 61, 62, 90, 91, 99, 100,
        115, 116, 200, 215, 216, 300, 301, 999, 1000, 1000000, 1000001, Integer.MAX_VALUE - 1, Integer.MAX_VALUE};
    private static final String[] TEXTS = {"worth near-far;", "worth sound+film*3;bar near>1;", "worth 0-gone;past 3;",
        "worth up*2+same;near 20;", "", "worth max(all,old)/rise;", "bar year>30 or long=2;", "worth (((1", "worth 77777;"};

    private static Object argument(Class<?> type, Random random) {
        int small = random.nextInt(6);
        int edge = EDGES[random.nextInt(EDGES.length)];
        if (type == boolean.class) {
            return random.nextBoolean();
        }
        if (type == long.class) {
            return random.nextInt(4) == 0 ? random.nextLong() : Due.letters("" + (char) ('a' + random.nextInt(26)) + "a");
        }
        return random.nextInt(5) == 0 ? edge : small;
    }

    private static List<Object> run(long seed, List<Method> methods) throws IllegalAccessException {
        Random random = new Random(seed);
        CradleNames x = new CradleNames();
        List<Object> answers = new ArrayList<>();
        for (int i = 0; i < 700; i++) {
            if (random.nextInt(25) == 0) {
                answers.add(Due.taste(x, TEXTS[random.nextInt(TEXTS.length)]));
            }
            Method m = methods.get(random.nextInt(methods.size()));
            Object[] args = new Object[m.getParameterCount()];
            for (int j = 0; j < args.length; j++) {
                args[j] = argument(m.getParameterTypes()[j], random);
            }
            try {
                answers.add(m.invoke(x, args));
            } catch (InvocationTargetException e) {
                System.out.println("seed " + seed + ": " + m + " threw " + e.getCause());
                e.getCause().printStackTrace(System.out);
                System.exit(1);
            }
        }
        return answers;
    }

    public static void main(String[] args) throws IllegalAccessException {
        int runs = args.length > 0 ? Integer.parseInt(args[0]) : 300;
        Due due = new Due();
        List<Method> methods = new ArrayList<>();
        for (Method m : CradleNames.class.getDeclaredMethods()) {
            if (Modifier.isPublic(m.getModifiers())) {
                methods.add(m);
            }
        }
        methods.sort(Comparator.comparing(Method::toString));
        for (int seed = 0; seed < runs; seed++) {
            due.is("seed " + seed + " once more", run(seed, methods).equals(run(seed, methods)), true);
        }
        due.end();
    }
}
