import java.lang.reflect.Method;
import java.util.Arrays;
import java.util.Comparator;

/** Runs of 512 calls with any arguments: none throws, and the same calls answer the same. */
public final class WildTest {
    private static final Check CHECK = new Check();
    private static final int[] EDGES = {Integer.MIN_VALUE, -100000, -2, -1, 0, 1, 2, 5, 6, 9, 10, 11, 12, 13, 19, 20,
        59, 60, 99, 100, 101, 200, 239, 240, 299, 300, 400, 999, 1000, 1001, 9999, 10000, Integer.MAX_VALUE};
    private static final int[] TEXT = {0x746f6c6c, 0x20312032, 0x303b2020, 0x61676169, 0x6e203120, 0x353b3b3b};

    public static void main(String[] args) throws ReflectiveOperationException {
        Method[] face = BoatBridge.class.getDeclaredMethods();
        face = Arrays.stream(face).filter(m -> java.lang.reflect.Modifier.isPublic(m.getModifiers()))
            .toArray(Method[]::new);
        Arrays.sort(face, Comparator.comparing(Method::getName));
        for (int run = 0; run < 300; run++) {
            wildRun(run, face);
        }
        CHECK.done();
    }

    private static void wildRun(int run, Method[] face) throws ReflectiveOperationException {
        int size = pickValue(run);
        BoatBridge one = new BoatBridge(size);
        BoatBridge two = new BoatBridge(size);
        for (int call = 0; call < 512; call++) {
            Method m = face[CHECK.pick(0, face.length - 1)];
            Object[] values = new Object[m.getParameterCount()];
            for (int i = 0; i < values.length; i++) {
                values[i] = pickValue(run);
            }
            Object first = m.invoke(one, values);
            Object second = m.invoke(two, values);
            String told = "run " + run + ": " + m.getName() + Arrays.toString(values);
            CHECK.due(told + ", told twice", first.equals(second), true);
        }
    }

    private static int pickValue(int run) {
        int sort = CHECK.pick(0, run % 2 == 0 ? 3 : 9);
        if (sort == 0) {
            return EDGES[CHECK.pick(0, EDGES.length - 1)];
        }
        if (sort == 1) {
            return TEXT[CHECK.pick(0, TEXT.length - 1)];
        }
        return CHECK.pick(0, sort == 2 ? 300 : 12);
    }
}
