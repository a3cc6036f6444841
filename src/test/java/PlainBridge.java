import java.util.ArrayList;
import java.util.HashMap;
import java.util.List;
import java.util.Map;
import java.util.TreeMap;
import java.util.regex.Matcher;
import java.util.regex.Pattern;

/** The document once more, word by word and slow: keeps all that was told and works each answer out anew. */
final class PlainBridge {
    private static final int NONE = -1;
    private static final Pattern TOKEN = Pattern.compile("[a-zA-Z]+|[0-9]+|[^ ]");

    /** Bears and anchor of each hull. */
    private final List<int[]> hulls = new ArrayList<>();
    private final Map<Integer, Integer> pulls = new HashMap<>();
    /** Weight and gap of each cart. */
    private final List<int[]> carts = new ArrayList<>();
    private final List<Integer> ships = new ArrayList<>();
    private final List<Integer> crossers = new ArrayList<>();
    private int[] times = {3, 2, 3, 2};
    private final Map<Integer, int[]> levels = new HashMap<>();
    private int most = 50;
    private int lays = 3;
    private String tape = "";
    private Map<String, Integer> clauses = new HashMap<>();
    private int[] latestFault = {NONE, NONE};
    private final List<Pass> passes = new ArrayList<>();

    private static final class Pass {
        final int kind;
        final int who;
        final int minute;
        final int paid;
        final boolean free;
        boolean goneFreeOn;

        Pass(int kind, int who, int minute, int paid, boolean free) {
            this.kind = kind;
            this.who = who;
            this.minute = minute;
            this.paid = paid;
            this.free = free;
        }
    }

    /** A way of opening: its waits, and minute, ships and end of each opening. */
    private static final class Way {
        final int waits;
        final List<int[]> openings;

        Way(int waits, List<int[]> openings) {
            this.waits = waits;
            this.openings = openings;
        }
    }

    PlainBridge(int n) {
        for (int k = 0; k < (n < 1 ? 1 : n > 12 ? 12 : n); k++) {
            hulls.add(new int[] {100, 100});
        }
    }

    private static boolean outside(int value, int low, int high) {
        return value < low || value > high;
    }

    boolean hull(int k, int bears, int anchor) {
        if (outside(k, 0, hulls.size() - 1) || outside(bears, 1, 1000) || outside(anchor, 0, 1000)) {
            return false;
        }
        hulls.set(k, new int[] {bears, anchor});
        return true;
    }

    boolean pull(int level, int v) {
        if (outside(level, 0, 9) || outside(v, 0, 1000)) {
            return false;
        }
        pulls.put(level, v);
        return true;
    }

    int drags(int level) {
        if (outside(level, 0, 9)) {
            return NONE;
        }
        return (int) hulls.stream().filter(h -> h[1] < pulls.getOrDefault(level, 0)).count();
    }

    int cart(int weight, int gap) {
        if (outside(weight, 1, 400) || carts.size() == 6 || !carts.isEmpty() && outside(gap, 1, 12)) {
            return NONE;
        }
        carts.add(new int[] {weight, gap});
        return carts.size();
    }

    int clear() {
        int had = carts.size();
        carts.clear();
        return had;
    }

    int pressed(int k, int step) {
        return outside(k, 0, hulls.size() - 1) || outside(step, 0, 100) ? NONE : pressedBy(k, step, 0);
    }

    /** With evenGap 0 the carts' own gaps. */
    private int pressedBy(int k, int step, int evenGap) {
        int sum = 0;
        int on = step;
        for (int i = 0; i < carts.size(); i++) {
            on -= i == 0 ? 0 : evenGap == 0 ? carts.get(i)[1] : evenGap;
            if (!outside(on, 0, hulls.size() - 1)) {
                int apart = Math.abs(on - k);
                sum += apart == 0 ? 2 * carts.get(i)[0] : apart == 1 ? carts.get(i)[0] : 0;
            }
        }
        return sum;
    }

    int worst(int what) {
        if (carts.isEmpty() || outside(what, 0, 2)) {
            return -100000;
        }
        return worstOf(0)[what];
    }

    private int[] worstOf(int evenGap) {
        int[] found = null;
        // Twelve hulls and five gaps of twelve: the last cart is over by step 72.
        for (int step = 0; step <= 72; step++) {
            for (int k = 0; k < hulls.size(); k++) {
                int margin = 4 * hulls.get(k)[0] - pressedBy(k, step, evenGap);
                if (found == null || margin < found[0]) {
                    found = new int[] {margin, k, step};
                }
            }
        }
        return found;
    }

    int gap() {
        for (int g = 1; g <= 12 && !carts.isEmpty(); g++) {
            if (worstOf(g)[0] >= 0) {
                return g;
            }
        }
        return NONE;
    }

    int ship(int minute) {
        if (outside(minute, 0, 239) || ships.size() == 10) {
            return NONE;
        }
        ships.add(minute);
        return ships.size() - 1;
    }

    int crosser(int minute) {
        if (outside(minute, 0, 239) || crossers.size() == 30) {
            return NONE;
        }
        crossers.add(minute);
        return crossers.size();
    }

    boolean times(int open, int each, int shut, int rank) {
        if (outside(open, 1, 20) || outside(each, 1, 20) || outside(shut, 1, 20) || outside(rank, 1, 9)) {
            return false;
        }
        times = new int[] {open, each, shut, rank};
        return true;
    }

    private List<Integer> inOrder() {
        List<Integer> row = new ArrayList<>(ships);
        row.sort(null);
        return row;
    }

    /** Waits, ships that went through and end of an opening at t, if so many have passed ahead of it. */
    private int[] open(List<Integer> row, int passed, int t) {
        int many = 0;
        int waits = 0;
        for (int s = passed; s < row.size() && row.get(s) <= t; s++) {
            many++;
            waits += times[3] * (t + times[0] + many * times[1] - row.get(s));
        }
        int end = t + times[0] + times[1] * many + times[2];
        for (int c : crossers) {
            waits += c >= t && c <= end - 1 ? end - c : 0;
        }
        return new int[] {waits, many, end};
    }

    /** All ways from here on, the best of them; null if there is none. */
    private Way best(List<Integer> row, int passed, int free, Map<Integer, Way> known) {
        if (passed == row.size()) {
            return new Way(0, new ArrayList<>());
        }
        int key = passed * 1000 + free;
        if (known.containsKey(key)) {
            return known.get(key);
        }
        Way found = null;
        for (int t = free; t <= 299; t++) {
            int[] opened = open(row, passed, t);
            Way rest = opened[1] == 0 ? null : best(row, passed + opened[1], opened[2], known);
            if (rest != null && (found == null || opened[0] + rest.waits < found.waits)) {
                List<int[]> all = new ArrayList<>();
                all.add(new int[] {t, opened[1], opened[2]});
                all.addAll(rest.openings);
                found = new Way(opened[0] + rest.waits, all);
            }
        }
        known.put(key, found);
        return found;
    }

    int waits() {
        Way way = best(inOrder(), 0, 0, new HashMap<>());
        return way == null ? NONE : way.waits;
    }

    int opening(int i, int what) {
        Way way = best(inOrder(), 0, 0, new HashMap<>());
        boolean none = way == null || outside(i, 0, way.openings.size() - 1) || outside(what, 0, 2);
        return none ? NONE : way.openings.get(i)[what];
    }

    int atOnce() {
        List<Integer> row = inOrder();
        int passed = 0;
        int sum = 0;
        for (int t = 0; t <= 299 && passed < row.size(); ) {
            int[] opened = open(row, passed, t);
            t = opened[1] == 0 ? t + 1 : opened[2];
            sum += opened[1] == 0 ? 0 : opened[0];
            passed += opened[1];
        }
        return passed < row.size() ? NONE : sum;
    }

    boolean level(int day, int low, int high) {
        if (outside(day, 0, 59)) {
            return false;
        }
        if (low == NONE) {
            levels.remove(day);
            return true;
        }
        if (outside(low, 0, 99) || outside(high, 0, 99) || high < low) {
            return false;
        }
        levels.put(day, new int[] {low, high});
        return true;
    }

    boolean flood(int newMost, int newLays) {
        if (outside(newMost, 0, 99) || outside(newLays, 1, 9)) {
            return false;
        }
        most = newMost;
        lays = newLays;
        return true;
    }

    private boolean bad(int day) {
        return !levels.containsKey(day) || levels.get(day)[1] > most;
    }

    /** A set of days as a text, 'o' for a day out: the fewest, of like ones the least text ('.' is below 'o'). */
    private String fewest() {
        // By day and whole runs: from a day on with the day ahead of it in.
        TreeMap<Integer, String> from = new TreeMap<>();
        from.put(60, "");
        from.put(61, "");
        for (int day = 59; day >= 0; day--) {
            String found = bad(day) ? null : "." + from.get(day + 1);
            for (int behind = day + 1; behind <= 60; behind++) {
                boolean longEnough = behind - day >= lays || behind == 60;
                boolean ends = behind == 60 || !bad(behind);
                if (longEnough && ends) {
                    String in = behind == 60 ? "" : "." + from.get(behind + 1);
                    found = better(found, "o".repeat(behind - day) + in);
                }
            }
            from.put(day, found);
        }
        return from.get(0);
    }

    private static String better(String one, String two) {
        if (one == null) {
            return two;
        }
        long outOne = one.chars().filter(c -> c == 'o').count();
        long outTwo = two.chars().filter(c -> c == 'o').count();
        if (outOne != outTwo) {
            return outOne < outTwo ? one : two;
        }
        return one.compareTo(two) <= 0 ? one : two;
    }

    int out() {
        return (int) fewest().chars().filter(c -> c == 'o').count();
    }

    int outOn(int day, int what) {
        if (outside(day, 0, 59) || outside(what, 0, 1)) {
            return NONE;
        }
        return (what == 0 ? fewest().charAt(day) == 'o' : bad(day)) ? 1 : 0;
    }

    int feed(int a, int b, int c, int d, int e) {
        if (tape.length() + 20 > 200) {
            return NONE;
        }
        for (int word : new int[] {a, b, c, d, e}) {
            for (byte one : java.nio.ByteBuffer.allocate(4).putInt(word).array()) {
                tape += (char) Byte.toUnsignedInt(one);
            }
        }
        return tape.length();
    }

    int end(int n) {
        if (outside(n, 0, tape.length())) {
            return NONE;
        }
        tape = tape.substring(0, n);
        return n;
    }

    int tolls() {
        String text = tape;
        tape = "";
        List<String> tokens = new ArrayList<>();
        List<Integer> places = new ArrayList<>();
        // A dot doesn't stand for line ends in a pattern, but [^ ] does.
        Matcher matcher = TOKEN.matcher(text);
        while (matcher.find()) {
            tokens.add(matcher.group());
            places.add(matcher.start());
        }
        tokens.add("");
        places.add(text.length());
        Map<String, Integer> told = new HashMap<>();
        for (int i = 0; i < tokens.size(); i++) {
            boolean whole = i % 4 == 0 && tokens.get(i).isEmpty();
            int found = whole ? 0 : faultOf(tokens, i, told);
            if (found != 0) {
                latestFault = new int[] {found, places.get(i)};
                return NONE;
            }
        }
        latestFault = new int[] {0, NONE};
        clauses = told;
        return told.size();
    }

    /** Each clause has four tokens, so a token's place among them tells what it must be. */
    private static int faultOf(List<String> tokens, int i, Map<String, Integer> told) {
        String token = tokens.get(i);
        String[] wanted = {"toll|again", "[0-9]+", "[0-9]+", ";"};
        if (!token.matches(wanted[i % 4])) {
            return 1;
        }
        String word = tokens.get(i - i % 4);
        if (i % 4 == 1) {
            java.math.BigInteger kind = new java.math.BigInteger(token);
            return told.containsKey(word + kind) ? 2 : kind.bitLength() > 31 || kind.intValue() > 5 ? 3 : 0;
        }
        if (i % 4 == 2) {
            java.math.BigInteger value = new java.math.BigInteger(token);
            if (value.bitLength() > 31 || outside(value.intValue(), word.equals("toll") ? 0 : 1, 999)) {
                return 3;
            }
            told.put(word + new java.math.BigInteger(tokens.get(i - 1)), value.intValue());
        }
        return 0;
    }

    int fault(int what) {
        return outside(what, 0, 1) ? NONE : latestFault[what];
    }

    int pass(int kind, int who, int minute) {
        int latest = passes.isEmpty() ? 0 : passes.get(passes.size() - 1).minute;
        if (outside(kind, 0, 5) || outside(who, 0, 19) || outside(minute, 0, 9999) || minute < latest) {
            return NONE;
        }
        Pass paidOne = null;
        for (Pass p : passes) {
            paidOne = p.kind == kind && p.who == who && p.paid > 0 ? p : paidOne;
        }
        Integer again = clauses.get("again" + kind);
        boolean free = paidOne != null && again != null && minute - paidOne.minute <= again && !paidOne.goneFreeOn;
        if (free) {
            paidOne.goneFreeOn = true;
        }
        int pays = free ? 0 : clauses.getOrDefault("toll" + kind, 0);
        passes.add(new Pass(kind, who, minute, pays, free));
        return pays;
    }

    int about(int what) {
        if (what >= 20 && what <= 25) {
            return clauses.getOrDefault("toll" + (what - 20), 0);
        }
        if (what >= 30 && what <= 35) {
            return clauses.getOrDefault("again" + (what - 30), 0);
        }
        int paid = passes.stream().mapToInt(p -> p.paid).sum();
        int free = (int) passes.stream().filter(p -> p.free).count();
        int[] row = {hulls.size(), carts.size(), ships.size(), crossers.size(), paid, free, tape.length()};
        return outside(what, 0, 6) ? NONE : row[what];
    }
}
