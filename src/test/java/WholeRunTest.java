import java.lang.reflect.Method;
import java.lang.reflect.Modifier;
import java.util.Arrays;
import java.util.Comparator;

/** Promises 1 to 25 together: long runs of mixed calls, each answer against the plain bridge's. */
public final class WholeRunTest {
    private static final Check CHECK = new Check();
    private static final int CALLS = 512;
    private static final String[] TEXTS = {"toll 1 20; again 1 30;", "toll 0 7;again 0 9;toll 2 0;",
        "again 2 999; toll 2 5;", "toll 0 9; toll 1 8;", "again 0 60; again 1 60;",
        "toll 3 1; toll 3 2;", "toll 6 1;", "again 4 0;", "toll 1", "", "   ", "toll 5 999; again 5 1; toll 4 3",
        "toll 0 5;toll 1 5;toll 2 5;toll 3 5;toll 4 5;toll 5 5;again 0 5;again 1 15;again 2 25;again 3 1;"};
    private static final String ODD_BYTES = "tolagin 0123569;; \t;\u00e9A";

    /** What is told for a call's arguments in turn: where each ordinarily lies. */
    private static int[][] ranges(String name) {
        switch (name) {
            case "hull": return new int[][] {{0, 11}, {1, 1000}, {0, 1000}};
            case "pull": return new int[][] {{0, 9}, {0, 1000}};
            case "drags": return new int[][] {{0, 9}};
            case "cart": return new int[][] {{1, 400}, {1, 12}};
            case "pressed": return new int[][] {{0, 11}, {0, 100}};
            case "worst": return new int[][] {{0, 2}};
            case "ship": case "crosser": return new int[][] {{0, 239}};
            case "times": return new int[][] {{1, 20}, {1, 20}, {1, 20}, {1, 9}};
            case "opening": return new int[][] {{0, 9}, {0, 2}};
            case "level": return new int[][] {{0, 59}, {0, 99}, {0, 99}};
            case "flood": return new int[][] {{0, 99}, {1, 9}};
            case "outOn": return new int[][] {{0, 59}, {0, 1}};
            case "end": return new int[][] {{0, 200}};
            case "fault": return new int[][] {{0, 1}};
            case "pass": return new int[][] {{0, 5}, {0, 19}, {0, 9999}};
            case "about": return new int[][] {{0, 35}};
            default: return new int[0][];
        }
    }

    private final BoatBridge bridge;
    private final PlainBridge plain;
    private final Method[] calls;
    private final Method[] plainCalls;
    private final int run;
    private int made;
    private int minute;

    private WholeRunTest(int run, int size) {
        this.run = run;
        bridge = new BoatBridge(size);
        plain = new PlainBridge(size);
        calls = methods(BoatBridge.class, true);
        plainCalls = methods(PlainBridge.class, false);
    }

    private static Method[] methods(Class<?> type, boolean open) {
        return Arrays.stream(type.getDeclaredMethods())
            .filter(m -> open ? Modifier.isPublic(m.getModifiers())
                : !Modifier.isPrivate(m.getModifiers()) && !m.isSynthetic())
            .sorted(Comparator.comparing(Method::getName)).toArray(Method[]::new);
    }

    public static void main(String[] args) throws ReflectiveOperationException {
        for (int run = 0; run < 120; run++) {
            new WholeRunTest(run, CHECK.pick(-1, 14)).go();
        }
        CHECK.done();
    }

    private void go() throws ReflectiveOperationException {
        CHECK.due("as many methods", calls.length, plainCalls.length);
        if (run % 2 == 0) {
            calmDays();
        }
        while (made < CALLS) {
            int which = CHECK.pick(0, calls.length + 3);
            if (which >= calls.length + 2) {
                passNow();
            } else if (which >= calls.length) {
                tellTolls();
            } else {
                call(calls[which].getName(), arguments(calls[which]));
            }
        }
    }

    /** Without this hardly a day of a run would be fit, and THE FEWEST would have little to choose. */
    private void calmDays() throws ReflectiveOperationException {
        for (int day = 0; day < 60; day++) {
            int high = CHECK.pick(0, 5) == 0 ? CHECK.pick(40, 99) : CHECK.pick(0, 50);
            call("level", day, 0, high);
        }
    }

    /** One who passes often enough to come back within again. */
    private void passNow() throws ReflectiveOperationException {
        for (int turn = CHECK.pick(1, 4); turn > 0; turn--) {
            minute = Math.min(9999, minute + Math.max(0, CHECK.pick(-5, 9)));
            call("pass", CHECK.pick(0, 3), CHECK.pick(0, 1), minute);
        }
        call("about", 5);
    }

    private void tellTolls() throws ReflectiveOperationException {
        StringBuilder text = new StringBuilder(TEXTS[CHECK.pick(0, TEXTS.length - 1)]);
        for (int i = CHECK.pick(-6, 2); i > 0 && text.length() > 0; i--) {
            text.setCharAt(CHECK.pick(0, text.length() - 1), ODD_BYTES.charAt(CHECK.pick(0, ODD_BYTES.length() - 1)));
        }
        int length = text.length();
        call("end", 0);
        while (text.length() % 20 != 0) {
            text.append(' ');
        }
        for (int i = 0; i < text.length(); i += 20) {
            call("feed", word(text, i), word(text, i + 4), word(text, i + 8), word(text, i + 12), word(text, i + 16));
        }
        call("end", length);
        call("tolls");
        call("fault", 0);
        call("fault", 1);
    }

    private static int word(StringBuilder text, int from) {
        return text.charAt(from) << 24 | text.charAt(from + 1) << 16 | text.charAt(from + 2) << 8
            | text.charAt(from + 3);
    }

    private static int[] arguments(Method m) {
        int[][] ranges = ranges(m.getName());
        int[] values = new int[m.getParameterCount()];
        for (int i = 0; i < values.length; i++) {
            values[i] = i < ranges.length ? argument(ranges[i][0], ranges[i][1]) : CHECK.pick(0, Integer.MAX_VALUE - 1);
        }
        if (m.getName().equals("level") && CHECK.pick(0, 9) == 0) {
            values[1] = BoatBridge.NONE;
        }
        // Passes of any minute would soon leave none that may still come.
        if (m.getName().equals("pass") && CHECK.pick(0, 30) > 0) {
            values[2] = CHECK.pick(0, 60);
        }
        return values;
    }

    private static int argument(int low, int high) {
        switch (CHECK.pick(0, 24)) {
            case 0: return low;
            case 1: return high;
            case 2: return low - 1;
            case 3: return high + 1;
            case 4: return CHECK.pick(0, 1) == 0 ? Integer.MIN_VALUE : Integer.MAX_VALUE;
            default: return CHECK.pick(low, high);
        }
    }

    private void call(String name, int... values) throws ReflectiveOperationException {
        if (made == CALLS) {
            return;
        }
        made++;
        String told = "run " + run + ", call " + made + ": " + name + Arrays.toString(values);
        CHECK.due(told, answer(calls, bridge, name, values), answer(plainCalls, plain, name, values));
    }

    private static long answer(Method[] from, Object of, String name, int[] values) throws ReflectiveOperationException {
        Object[] boxed = Arrays.stream(values).boxed().toArray();
        for (Method m : from) {
            if (m.getName().equals(name)) {
                m.setAccessible(true);
                Object got = m.invoke(of, boxed);
                return got instanceof Boolean ? ((Boolean) got ? 1 : 0) : (Integer) got;
            }
        }
        throw new IllegalStateException(name);
    }
}
