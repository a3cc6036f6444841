import java.util.ArrayList;
import java.util.List;

/** Promises 10 to 15: ships, crossers, THE BEST. */
public final class OpeningTest {
    private static final Check CHECK = new Check();
    private static final int LOW = Integer.MIN_VALUE;
    private static final int HIGH = Integer.MAX_VALUE;

    public static void main(String[] args) {
        tellShips();
        tellCrossers();
        tellTimes();
        noShips();
        bestOnes();
        tenApart();
        likeOnes();
        earliestOnes();
        againstSearch();
        CHECK.done();
    }

    private static void tellShips() {
        BoatBridge x = new BoatBridge(1);
        for (int wrong : new int[] {-1, 240, LOW, HIGH}) {
            CHECK.due("10: ship(" + wrong + ")", x.ship(wrong), -1);
        }
        CHECK.due("10: none has come", x.about(2), 0);
        CHECK.due("10: ship(239)", x.ship(239), 0);
        CHECK.due("10: ship(0): its number as told", x.ship(0), 1);
        for (int i = 2; i < 10; i++) {
            CHECK.due("10: ship(50)", x.ship(50), i);
        }
        CHECK.due("10: an eleventh", x.ship(50), -1);
        CHECK.due("25: about(2)", x.about(2), 10);
        CHECK.due("10: in order of coming: the first", x.opening(0, 0), 0);
        CHECK.due("10: in order of coming: eight at once", x.opening(1, 1), 8);
        CHECK.due("10: in order of coming: the last", x.opening(2, 0), 239);
    }

    private static void tellCrossers() {
        BoatBridge x = new BoatBridge(1);
        for (int wrong : new int[] {-1, 240, LOW, HIGH}) {
            CHECK.due("11: crosser(" + wrong + ")", x.crosser(wrong), -1);
        }
        CHECK.due("11: none has come", x.about(3), 0);
        CHECK.due("11: crosser(239)", x.crosser(239), 1);
        CHECK.due("11: crosser(0)", x.crosser(0), 2);
        for (int i = 3; i <= 30; i++) {
            CHECK.due("11: crosser(9)", x.crosser(9), i);
        }
        CHECK.due("11: a thirty-first", x.crosser(9), -1);
        CHECK.due("25: about(3)", x.about(3), 30);
        CHECK.due("11: without ships none waits", x.waits(), 0);
    }

    private static void tellTimes() {
        BoatBridge x = new BoatBridge(1);
        x.ship(100);
        CHECK.due("12: times at first", x.waits(), 10);
        CHECK.due("12: end at first", x.opening(0, 2), 108);
        int[][] wrong = {{0, 1, 1, 1}, {21, 1, 1, 1}, {1, 0, 1, 1}, {1, 21, 1, 1}, {1, 1, 0, 1}, {1, 1, 21, 1},
            {1, 1, 1, 0}, {1, 1, 1, 10}, {LOW, 1, 1, 1}, {1, HIGH, 1, 1}, {1, 1, LOW, 1}, {1, 1, 1, HIGH}};
        for (int[] w : wrong) {
            CHECK.due("12: times of " + java.util.Arrays.toString(w), x.times(w[0], w[1], w[2], w[3]), false);
        }
        CHECK.due("12: as before", x.waits(), 10);
        CHECK.due("12: end as before", x.opening(0, 2), 108);
        CHECK.due("12: times(20, 20, 20, 9)", x.times(20, 20, 20, 9), true);
        CHECK.due("12: the longest", x.waits(), 360);
        CHECK.due("12: its end", x.opening(0, 2), 160);
        CHECK.due("12: times(1, 1, 1, 1)", x.times(1, 1, 1, 1), true);
        CHECK.due("12: the shortest", x.waits(), 2);
        CHECK.due("12: times(5, 3, 7, 2)", x.times(5, 3, 7, 2), true);
        CHECK.due("12: each at its place", x.waits(), 16);
        CHECK.due("12: each at its place, the end", x.opening(0, 2), 115);
    }

    private static void noShips() {
        BoatBridge x = new BoatBridge(1);
        x.crosser(5);
        CHECK.due("13: no ships", x.waits(), 0);
        CHECK.due("15: no ships", x.atOnce(), 0);
        CHECK.due("14: no ships", x.opening(0, 0), -1);
    }

    private static void bestOnes() {
        BoatBridge x = new BoatBridge(1);
        x.ship(10);
        x.crosser(9);
        x.crosser(18);
        CHECK.due("13: a crosser ahead and one at the end don't wait", x.waits(), 10);
        x.crosser(17);
        CHECK.due("13: one in the last minute waits 1", x.waits(), 11);
        x.crosser(10);
        CHECK.due("13: an opening behind the crosser", x.opening(0, 0), 11);
        CHECK.due("13: 12 for the ship, 2 and 1 for crossers", x.waits(), 15);
        for (int[] w : new int[][] {{-1, 0}, {1, 0}, {0, -1}, {0, 3}, {LOW, 0}, {HIGH, 2}, {0, HIGH}}) {
            CHECK.due("14: opening(" + w[0] + ", " + w[1] + ")", x.opening(w[0], w[1]), -1);
        }

        BoatBridge late = new BoatBridge(1);
        late.times(20, 20, 20, 1);
        for (int i = 0; i < 9; i++) {
            late.ship(238);
        }
        late.ship(239);
        CHECK.due("13: one opening for all, as a second would begin too late", late.opening(0, 0), 239);
        CHECK.due("14: all go through", late.opening(0, 1), 10);
        CHECK.due("14: its end", late.opening(0, 2), 479);
        CHECK.due("13: their waits", late.waits(), 9 + 200 + 20 * 55);
        CHECK.due("15: at once one would begin behind 299", late.atOnce(), -1);
    }

    private static void tenApart() {
        BoatBridge x = new BoatBridge(1);
        for (int i = 9; i >= 0; i--) {
            x.ship(20 * i);
        }
        CHECK.due("13: ten apart", x.waits(), 100);
        CHECK.due("15: ten apart", x.atOnce(), 100);
        for (int i = 0; i < 10; i++) {
            CHECK.due("14: ten apart, minute of " + i, x.opening(i, 0), 20 * i);
            CHECK.due("14: ten apart, ships of " + i, x.opening(i, 1), 1);
            CHECK.due("14: ten apart, end of " + i, x.opening(i, 2), 20 * i + 8);
        }
        CHECK.due("14: ten apart, no eleventh", x.opening(10, 0), -1);
    }

    private static void likeOnes() {
        BoatBridge like = new BoatBridge(1);
        like.times(1, 1, 1, 3);
        like.ship(10);
        like.crosser(10);
        CHECK.due("13: 6 and 3 at 10, 9 at 11", like.waits(), 9);
        CHECK.due("13: of like ones the earliest", like.opening(0, 0), 10);
    }

    private static void earliestOnes() {
        BoatBridge x = new BoatBridge(1);
        x.ship(0);
        x.ship(1);
        x.ship(8);
        x.ship(9);
        // Ship 0 at 0 (5), end 8; ships 1 and 8 at 8 (12 and 7), end 18; ship 9 at 18 (14).
        CHECK.due("15: one behind the other", x.atOnce(), 2 * (5 + 12 + 7 + 14));
        x.crosser(17);
        CHECK.due("15: a crosser in the second", x.atOnce(), 2 * 38 + 1);
        x.crosser(18);
        CHECK.due("15: a crosser in the third", x.atOnce(), 2 * 38 + 1 + 8);

        BoatBridge edge = new BoatBridge(1);
        edge.times(20, 20, 20, 1);
        edge.ship(239);
        edge.ship(238);
        CHECK.due("15: begins at 298", edge.atOnce(), 40 + 298 + 40 - 239);
        BoatBridge last = new BoatBridge(1);
        last.times(20, 20, 20, 1);
        last.ship(219);
        last.ship(219);
        last.ship(239);
        CHECK.due("15: begins at 299", last.atOnce(), 40 + 60 + 299 + 40 - 239);
        BoatBridge over = new BoatBridge(1);
        over.times(20, 20, 20, 1);
        over.ship(220);
        over.ship(220);
        over.ship(239);
        CHECK.due("15: would begin at 300", over.atOnce(), -1);
        CHECK.due("13: THE BEST is there all the same", over.waits() > 0, true);
    }

    /** All ways of opening, tried one by one in order of their minutes. */
    private static final class Search {
        final int[] ships;
        final int[] crossers;
        final int[] times;
        int best = Integer.MAX_VALUE;
        List<int[]> bestOpenings = new ArrayList<>();

        Search(int[] ships, int[] crossers, int[] times) {
            this.ships = ships;
            this.crossers = crossers;
            this.times = times;
        }

        void go(int passed, int free, int sum, List<int[]> so) {
            if (passed == ships.length) {
                if (sum < best) {
                    best = sum;
                    bestOpenings = new ArrayList<>(so);
                }
                return;
            }
            for (int t = Math.max(free, ships[passed]); t <= 299 && sum + lower(passed, t) < best; t++) {
                int cost = 0;
                int next = passed;
                while (next < ships.length && ships[next] <= t) {
                    cost += times[3] * (t + times[0] + (next - passed + 1) * times[1] - ships[next]);
                    next++;
                }
                int end = t + times[0] + times[1] * (next - passed) + times[2];
                for (int c : crossers) {
                    cost += c >= t && c < end ? end - c : 0;
                }
                so.add(new int[] {t, next - passed, end});
                go(next, end, sum + cost, so);
                so.remove(so.size() - 1);
            }
        }

        /** No way that opens at t or later can be below this. */
        int lower(int passed, int t) {
            int sum = 0;
            for (int i = passed; i < ships.length; i++) {
                sum += times[3] * (Math.max(t, ships[i]) + times[0] + times[1] - ships[i]);
            }
            return sum;
        }
    }

    private static int plainAtOnce(Search s) {
        int passed = 0;
        int free = 0;
        int sum = 0;
        while (passed < s.ships.length) {
            int t = free;
            while (s.ships[passed] > t) {
                t++;
            }
            if (t > 299) {
                return -1;
            }
            int many = 0;
            while (passed < s.ships.length && s.ships[passed] <= t) {
                many++;
                sum += s.times[3] * (t + s.times[0] + many * s.times[1] - s.ships[passed]);
                passed++;
            }
            free = t + s.times[0] + many * s.times[1] + s.times[2];
            for (int c : s.crossers) {
                sum += c >= t && c < free ? free - c : 0;
            }
        }
        return sum;
    }

    private static void againstSearch() {
        for (int round = 0; round < 400; round++) {
            int from = CHECK.pick(0, 3) == 0 ? 215 : CHECK.pick(0, 200);
            int to = Math.min(239, from + CHECK.pick(1, 40));
            int most = CHECK.pick(0, 1) == 0 ? 5 : 20;
            int[] times = {CHECK.pick(1, most), CHECK.pick(1, most), CHECK.pick(1, most), CHECK.pick(1, 3)};
            int[] ships = new int[CHECK.pick(1, 5)];
            int[] crossers = new int[CHECK.pick(0, 30)];
            BoatBridge x = new BoatBridge(3);
            x.times(times[0], times[1], times[2], times[3]);
            for (int i = 0; i < ships.length; i++) {
                ships[i] = CHECK.pick(from, to);
                x.ship(ships[i]);
                x.waits();
            }
            for (int i = 0; i < crossers.length; i++) {
                crossers[i] = CHECK.pick(from, Math.min(239, to + 10));
                x.crosser(crossers[i]);
            }
            java.util.Arrays.sort(ships);
            Search s = new Search(ships, crossers, times);
            s.go(0, 0, 0, new ArrayList<>());
            CHECK.due("13: round " + round, x.waits(), s.best);
            for (int i = 0; i < 10; i++) {
                for (int what = 0; what < 3; what++) {
                    int want = i < s.bestOpenings.size() ? s.bestOpenings.get(i)[what] : -1;
                    CHECK.due("14: round " + round + ", opening(" + i + ", " + what + ")", x.opening(i, what), want);
                }
            }
            CHECK.due("15: round " + round, x.atOnce(), plainAtOnce(s));
        }
    }
}
