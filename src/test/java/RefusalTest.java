import java.lang.reflect.Method;
import java.util.ArrayList;
import java.util.Arrays;
import java.util.List;

/** Every call that is refused, and every call that only asks: no later answer is another one. */
public final class RefusalTest {
    private static final Check CHECK = new Check();
    private static final int LOW = Integer.MIN_VALUE;
    private static final int HIGH = Integer.MAX_VALUE;
    private static final int NEW = 0;
    private static final int USED = 1;
    private static final int FULL = 2;

    /** A call by its name, with what it answers where it is refused. */
    private record Call(String name, int due, int... values) {
        Object ask(BoatBridge x) throws ReflectiveOperationException {
            for (Method m : BoatBridge.class.getMethods()) {
                if (m.getName().equals(name)) {
                    Object[] boxed = new Object[values.length];
                    for (int i = 0; i < values.length; i++) {
                        boxed[i] = values[i];
                    }
                    return m.invoke(x, boxed);
                }
            }
            throw new NoSuchMethodException(name);
        }

        String told() {
            return name + Arrays.toString(values);
        }
    }

    public static void main(String[] args) throws ReflectiveOperationException {
        for (int state = NEW; state <= FULL; state++) {
            List<String> before = Sight.of(made(state));
            List<Call> refused = wrongValues(made(state).about(0));
            refused.addAll(refusedIn(state));
            for (Call call : refused) {
                BoatBridge x = made(state);
                Object answer = call.ask(x);
                long got = answer instanceof Boolean taken ? taken ? 1 : 0 : (Integer) answer;
                CHECK.due("state " + state + ": " + call.told(), got, call.due());
                dueSame("state " + state + ", behind " + call.told(), Sight.of(x), before);
            }
            for (Call call : asking()) {
                BoatBridge x = made(state);
                call.ask(x);
                dueSame("state " + state + ", behind " + call.told(), Sight.of(x), before);
            }
        }
        CHECK.done();
    }

    private static void dueSame(String where, List<String> got, List<String> want) {
        CHECK.due(where + ": rows", got.size(), want.size());
        for (int i = 0; i < want.size(); i++) {
            CHECK.due(where + ": " + got.get(i) + ", was " + want.get(i), got.get(i).equals(want.get(i)), true);
        }
    }

    private static BoatBridge made(int state) {
        if (state == NEW) {
            return new BoatBridge(5);
        }
        return state == USED ? used() : full();
    }

    private static BoatBridge used() {
        BoatBridge x = new BoatBridge(7);
        for (int k = 0; k < 7; k++) {
            x.hull(k, 150 + 10 * k, 20 * k);
        }
        x.pull(0, 70);
        x.pull(9, 30);
        x.cart(120, 5);
        x.cart(90, 1);
        x.cart(200, 3);
        x.times(4, 3, 2, 3);
        for (int minute : new int[] {60, 20, 25, 21}) {
            x.ship(minute);
            x.crosser(minute + 3);
        }
        for (int day = 0; day < 60; day += day == 30 ? 2 : 1) {
            x.level(day, day, day == 20 || day == 24 ? 80 : 60);
        }
        x.flood(70, 4);
        Texts.tell(x, "toll 0 7; again 0 20; toll 1 5; toll 5 9; again 5 300;");
        x.pass(5, 0, 400);
        x.pass(0, 0, 490);
        x.pass(0, 19, 495);
        x.pass(0, 19, 500);
        Texts.feed(x, "toll 3 4; toll 3 5; x");
        return x;
    }

    private static BoatBridge full() {
        BoatBridge x = new BoatBridge(12);
        for (int i = 0; i < 6; i++) {
            x.cart(100 - i, 2);
        }
        for (int i = 0; i < 10; i++) {
            x.ship(11 * i);
        }
        for (int i = 0; i < 30; i++) {
            x.crosser(5 * i);
        }
        for (int day = 0; day < 60; day++) {
            x.level(day, 0, 50);
        }
        Texts.tell(x, "toll 0 7; again 0 20; toll 6");
        x.pass(0, 0, 9999);
        Texts.feed(x, Texts.upTo(199, "toll 2 8; again 2 30;") + ";");
        return x;
    }

    private static List<Call> wrongValues(int n) {
        List<Call> all = new ArrayList<>();
        for (int k : new int[] {LOW, -1, n, 12, HIGH}) {
            all.add(new Call("hull", 0, k, 500, 500));
            all.add(new Call("pressed", -1, k, 5));
        }
        for (int wrong : new int[] {LOW, -1, 1001, HIGH}) {
            all.add(new Call("hull", 0, 0, wrong, 500));
            all.add(new Call("hull", 0, n - 1, 500, wrong));
            all.add(new Call("pull", 0, 9, wrong));
            all.add(new Call("pull", 0, 0, wrong));
        }
        all.add(new Call("hull", 0, 0, 0, 500));
        for (int level : new int[] {LOW, -1, 10, HIGH}) {
            all.add(new Call("pull", 0, level, 500));
            all.add(new Call("drags", -1, level));
        }
        for (int weight : new int[] {LOW, -1, 0, 401, HIGH}) {
            all.add(new Call("cart", -1, weight, 1));
        }
        for (int step : new int[] {LOW, -1, 101, HIGH}) {
            all.add(new Call("pressed", -1, 0, step));
        }
        for (int what : new int[] {LOW, -1, 3, HIGH}) {
            all.add(new Call("worst", -100000, what));
            all.add(new Call("opening", -1, 0, what));
        }
        addWrongTimes(all);
        addWrongDays(all);
        addWrongTolls(all);
        return all;
    }

    private static void addWrongTimes(List<Call> all) {
        for (int minute : new int[] {LOW, -1, 240, 299, HIGH}) {
            all.add(new Call("ship", -1, minute));
            all.add(new Call("crosser", -1, minute));
        }
        for (int wrong : new int[] {LOW, -1, 0, 21, HIGH}) {
            all.add(new Call("times", 0, wrong, 9, 9, 9));
            all.add(new Call("times", 0, 9, wrong, 9, 9));
            all.add(new Call("times", 0, 9, 9, wrong, 9));
            all.add(new Call("times", 0, 9, 9, 9, wrong));
        }
        all.add(new Call("times", 0, 9, 9, 9, 10));
        for (int i : new int[] {LOW, -1, 10, HIGH}) {
            all.add(new Call("opening", -1, i, 0));
        }
    }

    private static void addWrongDays(List<Call> all) {
        for (int day : new int[] {LOW, -1, 60, HIGH}) {
            all.add(new Call("level", 0, day, 0, 99));
            all.add(new Call("level", 0, day, -1, 0));
            all.add(new Call("outOn", -1, day, 0));
            all.add(new Call("outOn", -1, day, 1));
        }
        for (int wrong : new int[] {LOW, -2, 100, HIGH}) {
            all.add(new Call("level", 0, 7, wrong, 99));
            all.add(new Call("level", 0, 7, wrong, wrong));
            all.add(new Call("level", 0, 7, 0, wrong));
            all.add(new Call("flood", 0, wrong, 2));
            all.add(new Call("outOn", -1, 7, wrong));
        }
        all.add(new Call("level", 0, 7, 1, 0));
        all.add(new Call("level", 0, 7, 99, 98));
        all.add(new Call("level", 0, 7, 0, -1));
        all.add(new Call("flood", 0, -1, 2));
        all.add(new Call("outOn", -1, 7, -1));
        all.add(new Call("outOn", -1, 7, 2));
        for (int lays : new int[] {LOW, -1, 0, 10, HIGH}) {
            all.add(new Call("flood", 0, 20, lays));
        }
    }

    private static void addWrongTolls(List<Call> all) {
        for (int n : new int[] {LOW, -1, 201, HIGH}) {
            all.add(new Call("end", -1, n));
        }
        for (int what : new int[] {LOW, -1, 2, HIGH}) {
            all.add(new Call("fault", -1, what));
        }
        for (int kind : new int[] {LOW, -1, 6, HIGH}) {
            all.add(new Call("pass", -1, kind, 0, 9999));
        }
        for (int who : new int[] {LOW, -1, 20, HIGH}) {
            all.add(new Call("pass", -1, 0, who, 9999));
        }
        for (int minute : new int[] {LOW, -1, 10000, HIGH}) {
            all.add(new Call("pass", -1, 0, 0, minute));
        }
        for (int what : new int[] {LOW, -1, 7, 19, 26, 29, 36, HIGH}) {
            all.add(new Call("about", -1, what));
        }
    }

    private static List<Call> refusedIn(int state) {
        if (state == NEW) {
            return List.of(new Call("end", -1, 1), new Call("fault", -1, 0), new Call("fault", -1, 1),
                new Call("opening", -1, 0, 0), new Call("worst", -100000, 0), new Call("gap", -1));
        }
        if (state == USED) {
            return List.of(new Call("cart", -1, 1, 0), new Call("cart", -1, 1, 13), new Call("cart", -1, 1, -1),
                new Call("cart", -1, 400, LOW), new Call("cart", -1, 400, HIGH), new Call("end", -1, 22),
                new Call("pass", -1, 0, 0, 499), new Call("pass", -1, 5, 0, 0));
        }
        return List.of(new Call("cart", -1, 1, 1), new Call("cart", -1, 400, 12), new Call("ship", -1, 0),
            new Call("ship", -1, 239), new Call("crosser", -1, 0), new Call("crosser", -1, 239),
            new Call("feed", -1, 0, 0, 0, 0, 0), new Call("feed", -1, LOW, HIGH, -1, 1, 2),
            new Call("pass", -1, 0, 0, 9998), new Call("pass", -1, 0, 0, 0));
    }

    private static List<Call> asking() {
        return List.of(new Call("drags", 0, 0), new Call("pressed", 0, 0, 3), new Call("worst", 0, 0),
            new Call("worst", 0, 1), new Call("worst", 0, 2), new Call("gap", 0), new Call("waits", 0),
            new Call("opening", 0, 0, 0), new Call("atOnce", 0), new Call("out", 0), new Call("outOn", 0, 20, 0),
            new Call("outOn", 0, 20, 1), new Call("fault", 0, 0), new Call("fault", 0, 1), new Call("about", 0, 4));
    }
}
