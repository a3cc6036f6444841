/** Promises 1 to 9: hulls, anchors, the train. */
public final class HullTest {
    private static final Check CHECK = new Check();
    private static final int LOW = Integer.MIN_VALUE;
    private static final int HIGH = Integer.MAX_VALUE;

    public static void main(String[] args) {
        newObject();
        hulls();
        anchors();
        carts();
        presses();
        worstOnes();
        gaps();
        againstPlainSums();
        CHECK.done();
    }

    private static void newObject() {
        int[][] sizes = {{LOW, 1}, {-1, 1}, {0, 1}, {1, 1}, {2, 2}, {11, 11}, {12, 12}, {13, 12}, {HIGH, 12}};
        for (int[] size : sizes) {
            BoatBridge x = new BoatBridge(size[0]);
            CHECK.due("1: about(0) of " + size[0], x.about(0), size[1]);
            CHECK.due("1: last hull of " + size[0], x.pressed(size[1] - 1, 0), 0);
            CHECK.due("1: hull behind it of " + size[0], x.pressed(size[1], 0), -1);
        }
        BoatBridge x = new BoatBridge(2);
        x.cart(1, 1);
        CHECK.due("1: bears 100 at first", x.worst(0), 398);
        x.pull(0, 100);
        CHECK.due("1: anchors hold 100 at first", x.drags(0), 0);
        x.pull(0, 101);
        CHECK.due("1: anchors hold no more than 100", x.drags(0), 2);
    }

    private static void hulls() {
        BoatBridge x = new BoatBridge(3);
        int[][] wrong = {{-1, 5, 5}, {3, 5, 5}, {LOW, 5, 5}, {HIGH, 5, 5}, {0, 0, 5}, {0, 1001, 5}, {0, -1, 5},
            {0, 5, -1}, {0, 5, 1001}, {0, LOW, HIGH}};
        for (int[] w : wrong) {
            CHECK.due("2: hull(" + w[0] + ", " + w[1] + ", " + w[2] + ")", x.hull(w[0], w[1], w[2]), false);
        }
        x.cart(1, 0);
        x.pull(3, 100);
        CHECK.due("2: bears as before", x.worst(0), 398);
        CHECK.due("2: anchors as before", x.drags(3), 0);
        CHECK.due("2: hull(2, 1, 0)", x.hull(2, 1, 0), true);
        CHECK.due("2: bears 1", x.worst(0), 2);
        CHECK.due("2: holds 0", x.drags(3), 1);
        CHECK.due("2: hull(2, 1000, 1000)", x.hull(2, 1000, 1000), true);
        CHECK.due("2: hull(0, 1000, 1000)", x.hull(0, 1000, 1000), true);
        CHECK.due("2: hull(1, 1000, 1000)", x.hull(1, 1000, 1000), true);
        CHECK.due("2: bears 1000", x.worst(0), 3998);
    }

    private static void anchors() {
        BoatBridge x = new BoatBridge(4);
        for (int level = 0; level < 10; level++) {
            CHECK.due("4: drags at first " + level, x.drags(level), 0);
        }
        x.hull(0, 1, 0);
        CHECK.due("4: an anchor of 0 holds a pull of 0", x.drags(9), 0);
        CHECK.due("3: pull(9, 1)", x.pull(9, 1), true);
        CHECK.due("4: drags(9)", x.drags(9), 1);
        CHECK.due("4: drags(8)", x.drags(8), 0);
        CHECK.due("3: pull(0, 1000)", x.pull(0, 1000), true);
        x.hull(3, 1, 1000);
        x.hull(2, 1, 999);
        CHECK.due("4: drags(0)", x.drags(0), 3);
        int[][] wrong = {{-1, 5}, {10, 5}, {0, -1}, {0, 1001}, {LOW, 0}, {HIGH, 0}, {0, LOW}, {0, HIGH}};
        for (int[] w : wrong) {
            CHECK.due("3: pull(" + w[0] + ", " + w[1] + ")", x.pull(w[0], w[1]), false);
        }
        CHECK.due("3: pulls as before", x.drags(0), 3);
        CHECK.due("3: pull(0, 0)", x.pull(0, 0), true);
        CHECK.due("4: drags(0) without pull", x.drags(0), 0);
        CHECK.due("4: drags(-1)", x.drags(-1), -1);
        CHECK.due("4: drags(10)", x.drags(10), -1);
        CHECK.due("4: drags(low)", x.drags(LOW), -1);
        CHECK.due("4: drags(high)", x.drags(HIGH), -1);
    }

    private static void carts() {
        BoatBridge x = new BoatBridge(5);
        CHECK.due("6: clear() at first", x.clear(), 0);
        CHECK.due("5: cart(0, 1)", x.cart(0, 1), -1);
        CHECK.due("5: cart(401, 1)", x.cart(401, 1), -1);
        CHECK.due("5: cart(-3, 1)", x.cart(-3, 1), -1);
        CHECK.due("25: about(1)", x.about(1), 0);
        CHECK.due("5: the first one's gap doesn't count", x.cart(400, HIGH), 1);
        CHECK.due("5: it is on hull 0", x.pressed(0, 0), 800);
        CHECK.due("5: cart(1, 0)", x.cart(1, 0), -1);
        CHECK.due("5: cart(1, 13)", x.cart(1, 13), -1);
        CHECK.due("5: cart(1, low)", x.cart(1, LOW), -1);
        CHECK.due("5: cart(1, 12)", x.cart(1, 12), 2);
        for (int i = 3; i <= 6; i++) {
            CHECK.due("5: cart(2, 1)", x.cart(2, 1), i);
        }
        CHECK.due("5: a seventh", x.cart(2, 1), -1);
        CHECK.due("25: about(1)", x.about(1), 6);
        CHECK.due("6: clear()", x.clear(), 6);
        CHECK.due("25: about(1)", x.about(1), 0);
        CHECK.due("6: nothing presses", x.pressed(0, 0), 0);
        CHECK.due("6: clear() again", x.clear(), 0);
        CHECK.due("5: a first one again", x.cart(7, -5), 1);
        CHECK.due("5: on hull 0", x.pressed(0, 0), 14);
    }

    private static void presses() {
        BoatBridge x = new BoatBridge(4);
        x.cart(10, 1);
        x.cart(100, 2);
        int[][] due = {{20, 10, 0, 0}, {10, 20, 10, 0}, {200, 110, 20, 10}, {100, 200, 110, 20},
            {0, 100, 200, 100}, {0, 0, 100, 200}, {0, 0, 0, 0}};
        for (int step = 0; step < due.length; step++) {
            for (int k = 0; k < 4; k++) {
                CHECK.due("7: pressed(" + k + ", " + step + ")", x.pressed(k, step), due[step][k]);
            }
        }
        CHECK.due("7: pressed(0, 100)", x.pressed(0, 100), 0);
        CHECK.due("7: pressed(0, 101)", x.pressed(0, 101), -1);
        CHECK.due("7: pressed(0, -1)", x.pressed(0, -1), -1);
        CHECK.due("7: pressed(-1, 0)", x.pressed(-1, 0), -1);
        CHECK.due("7: pressed(4, 0)", x.pressed(4, 0), -1);
        CHECK.due("7: pressed(low, high)", x.pressed(LOW, HIGH), -1);
        CHECK.due("7: pressed(high, low)", x.pressed(HIGH, LOW), -1);
        BoatBridge one = new BoatBridge(1);
        one.cart(5, 1);
        CHECK.due("7: one hull alone", one.pressed(0, 0), 10);
        CHECK.due("7: a cart that is over presses nothing", one.pressed(0, 1), 0);
    }

    private static void worstOnes() {
        BoatBridge x = new BoatBridge(5);
        for (int what = -1; what <= 3; what++) {
            CHECK.due("8: without carts", x.worst(what), -100000);
        }
        x.cart(400, 1);
        CHECK.due("8: a margin below 0", x.worst(0), -400);
        CHECK.due("8: of like ones the earliest", x.worst(2), 0);
        x.hull(0, 1000, 0);
        x.hull(1, 200, 0);
        x.hull(2, 100, 0);
        x.hull(3, 100, 0);
        CHECK.due("8: margin", x.worst(0), -400);
        CHECK.due("8: hull", x.worst(1), 2);
        CHECK.due("8: step", x.worst(2), 2);
        x.hull(3, 1, 0);
        CHECK.due("8: margin of the weak one", x.worst(0), -796);
        CHECK.due("8: its hull", x.worst(1), 3);
        CHECK.due("8: its step", x.worst(2), 3);
        CHECK.due("8: worst(3)", x.worst(3), -100000);
        CHECK.due("8: worst(-1)", x.worst(-1), -100000);
        CHECK.due("8: worst(high)", x.worst(HIGH), -100000);

        BoatBridge tie = new BoatBridge(3);
        tie.hull(0, 50, 0);
        tie.hull(1, 25, 0);
        tie.hull(2, 900, 0);
        tie.cart(50, 1);
        CHECK.due("8: tie's margin", tie.worst(0), 0);
        CHECK.due("8: tie's step", tie.worst(2), 1);
        tie.clear();
        tie.cart(40, 1);
        tie.hull(0, 40, 0);
        tie.hull(1, 30, 0);
        CHECK.due("8: margins 80 at step 0 of hulls 0 and 1, 40 at step 1", tie.worst(0), 40);
        tie.hull(0, 20, 0);
        tie.hull(1, 100, 0);
        tie.hull(2, 20, 0);
        CHECK.due("8: like ones", tie.worst(0), 0);
        CHECK.due("8: like ones, the earliest's hull", tie.worst(1), 0);
        CHECK.due("8: like ones, the earliest's step", tie.worst(2), 0);
    }

    private static void gaps() {
        BoatBridge x = new BoatBridge(12);
        CHECK.due("9: no carts", x.gap(), -1);
        x.cart(200, 1);
        CHECK.due("9: one cart that holds", x.gap(), 1);
        x.cart(200, 1);
        CHECK.due("9: two that press one another", x.gap(), 2);
        CHECK.due("9: nothing changed", x.pressed(0, 1), 600);
        CHECK.due("9: worst as before", x.worst(0), -200);
        x.clear();
        x.cart(201, 1);
        CHECK.due("9: one that never holds", x.gap(), -1);
    }

    private static int plainPress(int n, int[] weights, int[] at, int k) {
        int sum = 0;
        for (int i = 0; i < weights.length; i++) {
            if (at[i] >= 0 && at[i] < n) {
                sum += at[i] == k ? 2 * weights[i] : Math.abs(at[i] - k) == 1 ? weights[i] : 0;
            }
        }
        return sum;
    }

    private static int[] plainWorst(int n, int[] bears, int[] weights, int[] gaps) {
        int[] worst = {Integer.MAX_VALUE, 0, 0};
        for (int step = 0; step <= 100; step++) {
            int[] at = placesAt(step, gaps);
            for (int k = 0; k < n; k++) {
                int margin = 4 * bears[k] - plainPress(n, weights, at, k);
                if (margin < worst[0]) {
                    worst = new int[] {margin, k, step};
                }
            }
        }
        return worst;
    }

    private static int[] placesAt(int step, int[] gaps) {
        int[] at = new int[gaps.length];
        at[0] = step;
        for (int i = 1; i < gaps.length; i++) {
            at[i] = at[i - 1] - gaps[i];
        }
        return at;
    }

    private static void againstPlainSums() {
        for (int round = 0; round < 400; round++) {
            int n = CHECK.pick(1, 12);
            int top = CHECK.pick(0, 1) == 0 ? 200 : 8;
            BoatBridge x = new BoatBridge(n);
            int[] bears = new int[n];
            for (int k = 0; k < n; k++) {
                bears[k] = CHECK.pick(1, top);
                x.hull(k, bears[k], 0);
            }
            int carts = CHECK.pick(1, 6);
            int[] weights = new int[carts];
            int[] gaps = new int[carts];
            for (int i = 0; i < carts; i++) {
                weights[i] = CHECK.pick(1, top);
                gaps[i] = CHECK.pick(1, 12);
                x.cart(weights[i], gaps[i]);
            }
            int[] worst = plainWorst(n, bears, weights, gaps);
            for (int what = 0; what < 3; what++) {
                CHECK.due("8: round " + round + ", worst(" + what + ")", x.worst(what), worst[what]);
            }
            int step = CHECK.pick(0, 100);
            int k = CHECK.pick(0, n - 1);
            CHECK.due("7: round " + round, x.pressed(k, step), plainPress(n, weights, placesAt(step, gaps), k));
            CHECK.due("9: round " + round, x.gap(), plainGap(n, bears, weights));
        }
    }

    private static int plainGap(int n, int[] bears, int[] weights) {
        for (int g = 1; g <= 12; g++) {
            int[] gaps = new int[weights.length];
            java.util.Arrays.fill(gaps, g);
            if (plainWorst(n, bears, weights, gaps)[0] >= 0) {
                return g;
            }
        }
        return -1;
    }
}
