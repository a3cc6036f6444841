/** Promises 16 to 19: levels, bad days, THE FEWEST. */
public final class DaysTest {
    private static final Check CHECK = new Check();
    private static final int LOW = Integer.MIN_VALUE;
    private static final int HIGH = Integer.MAX_VALUE;

    public static void main(String[] args) {
        levels();
        floods();
        runs();
        likeSets();
        wrongDays();
        againstAllSets();
        CHECK.done();
    }

    private static BoatBridge calm() {
        BoatBridge x = new BoatBridge(1);
        for (int day = 0; day < 60; day++) {
            x.level(day, 0, 50);
        }
        return x;
    }

    private static void levels() {
        BoatBridge x = new BoatBridge(1);
        CHECK.due("18: none is foretold", x.out(), 60);
        CHECK.due("19: none is foretold: bad", x.outOn(30, 1), 1);
        x = calm();
        CHECK.due("18: all at MOST", x.out(), 0);
        int[][] wrong = {{-1, 0, 99}, {60, 0, 99}, {5, -2, 99}, {5, 100, 100}, {5, 0, 100}, {5, 99, 98}, {5, 0, -1},
            {LOW, 0, 99}, {HIGH, 0, 99}, {5, LOW, 99}, {5, 0, HIGH}, {60, -1, 0}, {-1, -1, 0}};
        for (int[] w : wrong) {
            CHECK.due("16: level" + java.util.Arrays.toString(w), x.level(w[0], w[1], w[2]), false);
        }
        CHECK.due("16: nothing changed", x.out(), 0);
        CHECK.due("16: level(59, 99, 99)", x.level(59, 99, 99), true);
        CHECK.due("18: the last day alone", x.out(), 1);
        CHECK.due("16: level(59, 0, 0)", x.level(59, 0, 0), true);
        CHECK.due("18: told anew", x.out(), 0);
        CHECK.due("16: level(59, -1, 99)", x.level(59, -1, 99), true);
        CHECK.due("19: none any more: bad", x.outOn(59, 1), 1);
        CHECK.due("16: a HIGH doesn't count there", x.level(58, -1, HIGH), true);
        CHECK.due("18: none any more", x.out(), 2);
        CHECK.due("16: level(3, 50, 51)", x.level(3, 50, 51), true);
        CHECK.due("19: HIGH above MOST", x.outOn(3, 1), 1);
        CHECK.due("19: HIGH at MOST", x.outOn(4, 1), 0);
    }

    private static void floods() {
        BoatBridge x = calm();
        x.level(20, 0, 51);
        CHECK.due("17: LAYS at first", x.out(), 3);
        int[][] wrong = {{-1, 3}, {100, 3}, {50, 0}, {50, 10}, {LOW, 3}, {HIGH, 3}, {50, LOW}, {50, HIGH}};
        for (int[] w : wrong) {
            CHECK.due("17: flood" + java.util.Arrays.toString(w), x.flood(w[0], w[1]), false);
        }
        CHECK.due("17: nothing changed", x.out(), 3);
        CHECK.due("17: flood(50, 9)", x.flood(50, 9), true);
        CHECK.due("18: nine days", x.out(), 9);
        CHECK.due("17: flood(50, 1)", x.flood(50, 1), true);
        CHECK.due("18: one day", x.out(), 1);
        CHECK.due("17: flood(99, 9)", x.flood(99, 9), true);
        CHECK.due("18: no bad one", x.out(), 0);
        CHECK.due("17: flood(0, 1)", x.flood(0, 1), true);
        CHECK.due("18: all bad", x.out(), 60);
        CHECK.due("17: flood(51, 1)", x.flood(51, 1), true);
        CHECK.due("18: HIGH at MOST", x.out(), 0);
    }

    private static void dueDays(String what, BoatBridge x, int... days) {
        CHECK.due("18: " + what, x.out(), days.length);
        for (int day = 0; day < 60; day++) {
            boolean in = false;
            for (int d : days) {
                in |= d == day;
            }
            CHECK.due("19: " + what + ", day " + day, x.outOn(day, 0), in ? 1 : 0);
        }
    }

    private static void runs() {
        BoatBridge x = calm();
        x.level(0, 0, 60);
        dueDays("the first day", x, 0, 1, 2);
        x.level(59, 0, 60);
        dueDays("a short run at the end", x, 0, 1, 2, 59);
        x.level(0, 0, 0);
        x.level(57, 0, 60);
        dueDays("two at the end", x, 57, 58, 59);
        x.level(59, 0, 0);
        x.level(56, 0, 60);
        dueDays("a whole run ahead of the end", x, 56, 57, 58);
        x.level(58, 0, 60);
        x.level(59, 0, 60);
        dueDays("four", x, 56, 57, 58, 59);
    }

    private static void likeSets() {
        BoatBridge x = calm();
        x.level(20, 0, 60);
        dueDays("as late as can be", x, 20, 21, 22);
        x.level(22, 0, 60);
        dueDays("both in one run", x, 20, 21, 22);
        x.level(24, 0, 60);
        dueDays("three, two apart", x, 20, 21, 22, 23, 24);
        x.level(24, 0, 0);
        x.level(23, 0, 60);
        x.level(25, 0, 60);
        dueDays("one ahead of 25 is out, none behind it", x, 20, 21, 22, 23, 24, 25);
        x = calm();
        x.level(56, 0, 60);
        x.level(58, 0, 60);
        dueDays("one run, not two", x, 56, 57, 58);
        x = calm();
        x.flood(50, 4);
        x.level(10, 0, 60);
        x.level(15, 0, 60);
        // 10 to 13 and 15 to 18 are eight; one run from 10 to 15 is six.
        dueDays("one run is fewer", x, 10, 11, 12, 13, 14, 15);
    }

    private static void wrongDays() {
        BoatBridge x = calm();
        for (int[] w : new int[][] {{-1, 0}, {60, 0}, {0, -1}, {0, 2}, {LOW, 1}, {HIGH, 1}, {0, LOW}, {0, HIGH}}) {
            CHECK.due("19: outOn" + java.util.Arrays.toString(w), x.outOn(w[0], w[1]), -1);
        }
        CHECK.due("19: outOn(59, 1)", x.outOn(59, 1), 0);
        CHECK.due("19: outOn(0, 0)", x.outOn(0, 0), 0);
    }

    private static boolean fits(boolean[] out, int lays) {
        int run = 0;
        for (int day = 0; day < 60; day++) {
            if (out[day]) {
                run++;
            } else {
                if (run > 0 && run < lays) {
                    return false;
                }
                run = 0;
            }
        }
        return true;
    }

    /** Whether the days of one set, in order, are later than those of the other. */
    private static boolean later(boolean[] one, boolean[] other) {
        for (int day = 0; day < 60; day++) {
            if (one[day] != other[day]) {
                return other[day];
            }
        }
        return false;
    }

    private static void againstAllSets() {
        for (int round = 0; round < 150; round++) {
            int lays = CHECK.pick(1, 5);
            int from = new int[] {0, 20, 46}[CHECK.pick(0, 2)];
            BoatBridge x = calm();
            x.flood(50, lays);
            boolean[] bad = new boolean[60];
            int often = CHECK.pick(2, 6);
            // Behind the last bad one there are days enough for a run, or day 59.
            for (int i = 0; i < (from == 46 ? 14 : 9); i++) {
                if (CHECK.pick(1, often) == 1) {
                    bad[from + i] = true;
                    x.level(from + i, 10, 90);
                }
            }
            boolean[] best = bestOfAll(from, bad, lays);
            int count = 0;
            for (int day = 0; day < 60; day++) {
                count += best[day] ? 1 : 0;
                CHECK.due("19: round " + round + ", day " + day, x.outOn(day, 0), best[day] ? 1 : 0);
                CHECK.due("19: round " + round + ", bad " + day, x.outOn(day, 1), bad[day] ? 1 : 0);
            }
            CHECK.due("18: round " + round, x.out(), count);
        }
    }

    private static boolean[] bestOfAll(int from, boolean[] bad, int lays) {
        boolean[] best = null;
        int fewest = 61;
        for (int set = 0; set < 1 << 14; set++) {
            boolean[] out = new boolean[60];
            boolean all = true;
            for (int i = 0; i < 14; i++) {
                out[from + i] = (set >> i & 1) == 1;
                all &= out[from + i] || !bad[from + i];
            }
            int count = Integer.bitCount(set);
            if (all && count <= fewest && fits(out, lays)) {
                if (count < fewest || later(out, best)) {
                    best = out;
                    fewest = count;
                }
            }
        }
        return best;
    }
}
