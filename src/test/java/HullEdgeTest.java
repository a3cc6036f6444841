/** The boundary cases of promises 1 to 9, one method for each sentence that names one. */
public final class HullEdgeTest {
    private static final Check CHECK = new Check();
    private static final int LOW = Integer.MIN_VALUE;
    private static final int HIGH = Integer.MAX_VALUE;

    public static void main(String[] args) {
        countOfHulls();
        firstBearingsAndAnchors();
        firstPulls();
        hullsThatThereAre();
        bearings();
        anchorsHold();
        refusedHullSetsNeither();
        pullsOfLevels();
        pullValues();
        anchorAtThePull();
        dragsOfNoneAndAll();
        weights();
        gapsBehind();
        firstGapIsFree();
        sixCarts();
        clearedTrain();
        stepsAsked();
        hullsAsked();
        noNeighbourOutside();
        cartsOffTheBridge();
        longestTrain();
        marginOfZero();
        deepestMargin();
        worstOfLikeOnes();
        worstOfOthers();
        gapsThatHold();
        gapOfOneHull();
        CHECK.done();
    }

    /** "n HULLS; below 1: 1, above 12: 12." */
    private static void countOfHulls() {
        int[][] due = {{LOW, 1}, {-12, 1}, {-1, 1}, {0, 1}, {1, 1}, {2, 2}, {11, 11}, {12, 12}, {13, 12}, {24, 12},
            {HIGH, 12}};
        for (int[] d : due) {
            BoatBridge x = new BoatBridge(d[0]);
            CHECK.due("1: BoatBridge(" + d[0] + ")", x.about(0), d[1]);
            CHECK.due("1: its last hull, " + d[0], x.hull(d[1] - 1, 1, 1), true);
            CHECK.due("1: no hull behind it, " + d[0], x.hull(d[1], 1, 1), false);
        }
    }

    /** "at first 100": of each hull alone, and no more or less. */
    private static void firstBearingsAndAnchors() {
        for (int n = 1; n <= 12; n++) {
            BoatBridge x = new BoatBridge(n);
            x.pull(4, 100);
            x.pull(5, 101);
            CHECK.due("1: anchors hold 100, n " + n, x.drags(4), 0);
            CHECK.due("1: anchors hold no 101, n " + n, x.drags(5), n);
            x.cart(200, 1);
            for (int k = 0; k < n; k++) {
                CHECK.due("1: bears of hull " + k, x.worst(1), k);
                CHECK.due("1: 100 of hull " + k, x.worst(0), 0);
                x.hull(k, 1000, 100);
            }
            CHECK.due("1: all bear 1000, n " + n, x.worst(0), 3600);
        }
    }

    /** "PULL of a LEVEL ... at first 0": an anchor of 0 holds it. */
    private static void firstPulls() {
        BoatBridge x = new BoatBridge(1);
        x.hull(0, 1, 0);
        for (int level = 0; level < 10; level++) {
            CHECK.due("3: pull of " + level + " at first", x.drags(level), 0);
            CHECK.due("3: pull(" + level + ", 1)", x.pull(level, 1), true);
            CHECK.due("3: pull of " + level + " then", x.drags(level), 1);
        }
    }

    /** "HULLS 0 .. n - 1". */
    private static void hullsThatThereAre() {
        for (int n = 1; n <= 12; n++) {
            BoatBridge x = new BoatBridge(n);
            CHECK.due("2: hull -1 of " + n, x.hull(-1, 5, 5), false);
            for (int k = 0; k < n; k++) {
                CHECK.due("2: hull " + k + " of " + n, x.hull(k, 5, 5), true);
            }
            for (int k = n; k <= 13; k++) {
                CHECK.due("2: hull " + k + " of " + n, x.hull(k, 5, 5), false);
            }
        }
    }

    /** "each BEARS so much (1 .. 1000)". */
    private static void bearings() {
        BoatBridge x = new BoatBridge(1);
        x.cart(1, 1);
        CHECK.due("2: bears 0", x.hull(0, 0, 7), false);
        CHECK.due("2: bears 0: as before", x.worst(0), 398);
        CHECK.due("2: bears 1", x.hull(0, 1, 7), true);
        CHECK.due("2: bears 1: margin", x.worst(0), 2);
        CHECK.due("2: bears 1001", x.hull(0, 1001, 7), false);
        CHECK.due("2: bears 1001: as before", x.worst(0), 2);
        CHECK.due("2: bears 1000", x.hull(0, 1000, 7), true);
        CHECK.due("2: bears 1000: margin", x.worst(0), 3998);
    }

    /** "its ANCHOR holds so much (0 .. 1000)". */
    private static void anchorsHold() {
        BoatBridge x = new BoatBridge(1);
        x.pull(0, 1);
        x.pull(1, 1000);
        x.pull(2, 100);
        CHECK.due("2: anchor -1", x.hull(0, 7, -1), false);
        CHECK.due("2: anchor -1: as before", x.drags(2), 0);
        CHECK.due("2: anchor 0", x.hull(0, 7, 0), true);
        CHECK.due("2: anchor 0 holds no 1", x.drags(0), 1);
        CHECK.due("2: anchor 1001", x.hull(0, 7, 1001), false);
        CHECK.due("2: anchor 1001: as before", x.drags(0), 1);
        CHECK.due("2: anchor 999", x.hull(0, 7, 999), true);
        CHECK.due("2: anchor 999 holds no 1000", x.drags(1), 1);
        CHECK.due("2: anchor 1000", x.hull(0, 7, 1000), true);
        CHECK.due("2: anchor 1000 holds 1000", x.drags(1), 0);
    }

    /** "False, changing nothing": a right value beside a wrong one isn't taken either. */
    private static void refusedHullSetsNeither() {
        BoatBridge x = new BoatBridge(2);
        x.cart(1, 1);
        x.pull(0, 100);
        for (int anchor : new int[] {LOW, -1, 1001, HIGH}) {
            CHECK.due("2: hull(1, 1, " + anchor + ")", x.hull(1, 1, anchor), false);
            CHECK.due("2: bears as before", x.worst(0), 398);
        }
        for (int bears : new int[] {LOW, -1, 0, 1001, HIGH}) {
            CHECK.due("2: hull(1, " + bears + ", 0)", x.hull(1, bears, 0), false);
            CHECK.due("2: the anchor as before", x.drags(0), 0);
        }
    }

    /** "PULL of a LEVEL 0 .. 9"; "NONE for others". */
    private static void pullsOfLevels() {
        BoatBridge x = new BoatBridge(3);
        for (int level : new int[] {LOW, -1, 10, HIGH}) {
            CHECK.due("3: pull(" + level + ", 500)", x.pull(level, 500), false);
            CHECK.due("4: drags(" + level + ")", x.drags(level), -1);
        }
        for (int level = 0; level < 10; level++) {
            CHECK.due("3: no level was pulled, " + level, x.drags(level), 0);
        }
        CHECK.due("3: pull(0, 500)", x.pull(0, 500), true);
        CHECK.due("3: pull(9, 500)", x.pull(9, 500), true);
        for (int level = 0; level < 10; level++) {
            CHECK.due("3: these two alone, " + level, x.drags(level), level == 0 || level == 9 ? 3 : 0);
        }
    }

    /** "(0 .. 1000; at first 0)"; "False for others". */
    private static void pullValues() {
        BoatBridge x = new BoatBridge(2);
        x.hull(0, 1, 999);
        x.hull(1, 1, 0);
        CHECK.due("3: pull of 1000", x.pull(5, 1000), true);
        CHECK.due("3: it drags 999", x.drags(5), 2);
        for (int v : new int[] {LOW, -1, 1001, HIGH}) {
            CHECK.due("3: pull of " + v, x.pull(5, v), false);
            CHECK.due("3: as before", x.drags(5), 2);
        }
        CHECK.due("3: pull of 0", x.pull(5, 0), true);
        CHECK.due("3: it drags none", x.drags(5), 0);
    }

    /** "How many ANCHORS hold less than the PULL": one that holds as much doesn't count. */
    private static void anchorAtThePull() {
        BoatBridge x = new BoatBridge(3);
        x.hull(0, 1, 59);
        x.hull(1, 1, 60);
        x.hull(2, 1, 61);
        int[] due = {0, 1, 2, 3};
        for (int i = 0; i < due.length; i++) {
            x.pull(7, 59 + i);
            CHECK.due("4: pull of " + (59 + i), x.drags(7), due[i]);
        }
    }

    private static void dragsOfNoneAndAll() {
        BoatBridge x = new BoatBridge(12);
        x.pull(3, 500);
        for (int k = 0; k < 12; k++) {
            CHECK.due("4: all but " + k, x.drags(3), 12 - k);
            x.hull(k, 1, 500);
        }
        CHECK.due("4: none of twelve", x.drags(3), 0);
    }

    /** "each of a WEIGHT (1 .. 400)"; "NONE for others". */
    private static void weights() {
        for (int carts = 0; carts < 6; carts++) {
            BoatBridge x = new BoatBridge(12);
            for (int i = 0; i < carts; i++) {
                x.cart(1, 1);
            }
            for (int weight : new int[] {LOW, -400, -1, 0, 401, HIGH}) {
                CHECK.due("5: weight " + weight + " behind " + carts, x.cart(weight, 1), -1);
                CHECK.due("5: as many carts as before", x.about(1), carts);
            }
            CHECK.due("5: weight 400 behind " + carts, x.cart(400, 1), carts + 1);
            CHECK.due("5: it presses with 800", x.pressed(0, carts) - (carts > 0 ? 1 : 0), 800);
        }
        BoatBridge light = new BoatBridge(1);
        CHECK.due("5: weight 1", light.cart(1, 1), 1);
        CHECK.due("5: it presses with 2", light.pressed(0, 0), 2);
    }

    /** "so many HULLS behind the one ahead (its GAP, 1 .. 12)". */
    private static void gapsBehind() {
        for (int gap : new int[] {LOW, -1, 0, 13, HIGH}) {
            BoatBridge x = new BoatBridge(12);
            x.cart(10, 1);
            CHECK.due("5: gap " + gap, x.cart(3, gap), -1);
            CHECK.due("5: one cart as before", x.about(1), 1);
            CHECK.due("5: gap 1 is taken behind it", x.cart(3, 1), 2);
            CHECK.due("5: it is one hull behind", x.pressed(0, 1), 10 + 6);
        }
        for (int gap = 1; gap <= 12; gap++) {
            BoatBridge x = new BoatBridge(1);
            x.cart(10, 1);
            CHECK.due("5: gap " + gap, x.cart(3, gap), 2);
            CHECK.due("5: on hull 0 at " + gap, x.pressed(0, gap), 6);
            CHECK.due("5: not ahead of it", x.pressed(0, gap - 1), gap == 1 ? 20 : 0);
            CHECK.due("5: not behind it", x.pressed(0, gap + 1), 0);
        }
    }

    /** "(the first one's GAP doesn't count)". */
    private static void firstGapIsFree() {
        for (int gap : new int[] {LOW, -1, 0, 1, 12, 13, HIGH}) {
            BoatBridge x = new BoatBridge(3);
            CHECK.due("5: first with gap " + gap, x.cart(10, gap), 1);
            CHECK.due("5: it is on hull 0 at step 0", x.pressed(0, 0), 20);
            CHECK.due("5: the second", x.cart(1, 2), 2);
            CHECK.due("5: two behind it", x.pressed(0, 2), 2);
            CHECK.due("5: the first at hull 2", x.pressed(2, 2), 20);
        }
    }

    /** "or if it has 6": the seventh changes nothing. */
    private static void sixCarts() {
        BoatBridge x = new BoatBridge(12);
        for (int i = 1; i <= 6; i++) {
            CHECK.due("5: cart " + i, x.cart(i, 1), i);
        }
        int worst = x.worst(0);
        CHECK.due("5: a seventh", x.cart(400, 1), -1);
        CHECK.due("5: a seventh once more", x.cart(1, 12), -1);
        CHECK.due("5: six", x.about(1), 6);
        CHECK.due("5: the worst is as before", x.worst(0), worst);
        CHECK.due("5: nothing behind the sixth", x.pressed(0, 7), 0);
        CHECK.due("6: clear() of six", x.clear(), 6);
        CHECK.due("5: room again", x.cart(400, 0), 1);
    }

    /** "The TRAIN has no CARTS: how many it had", of none, and nothing is left of it. */
    private static void clearedTrain() {
        BoatBridge x = new BoatBridge(4);
        CHECK.due("6: clear() of none", x.clear(), 0);
        for (int carts = 1; carts <= 6; carts++) {
            for (int i = 0; i < carts; i++) {
                x.cart(50, 3);
            }
            CHECK.due("6: clear()", x.clear(), carts);
            CHECK.due("6: no cart", x.about(1), 0);
            CHECK.due("6: no margin", x.worst(0), -100000);
            CHECK.due("6: no gap", x.gap(), -1);
            CHECK.due("6: no weight", x.pressed(0, 0), 0);
        }
        CHECK.due("6: clear() of none again", x.clear(), 0);
        x.cart(7, 9);
        x.cart(5, 1);
        CHECK.due("6: the former gaps are gone", x.pressed(0, 1), 7 + 10);
    }

    /** "at a STEP (0 .. 100). NONE for others." */
    private static void stepsAsked() {
        BoatBridge x = new BoatBridge(2);
        int[][] due = {{LOW, -1}, {-1, -1}, {0, 0}, {100, 0}, {101, -1}, {HIGH, -1}};
        for (int[] d : due) {
            CHECK.due("7: without carts, step " + d[0], x.pressed(1, d[0]), d[1]);
        }
        x.cart(9, 1);
        CHECK.due("7: step 0", x.pressed(1, 0), 9);
        for (int[] d : due) {
            if (d[0] != 0) {
                CHECK.due("7: step " + d[0], x.pressed(1, d[0]), d[1]);
            }
        }
    }

    private static void hullsAsked() {
        for (int n = 1; n <= 12; n++) {
            BoatBridge x = new BoatBridge(n);
            x.cart(9, 1);
            for (int k : new int[] {LOW, -1, n, 12, HIGH}) {
                CHECK.due("7: hull " + k + " of " + n, x.pressed(k, n - 1), -1);
            }
            CHECK.due("7: the last of " + n, x.pressed(n - 1, n - 1), 18);
        }
    }

    /** "HULLS k - 1, k + 1, those that there are". */
    private static void noNeighbourOutside() {
        BoatBridge one = new BoatBridge(1);
        one.cart(9, 1);
        CHECK.due("7: one hull alone", one.pressed(0, 0), 18);
        BoatBridge x = new BoatBridge(3);
        x.cart(9, 1);
        int[][] due = {{18, 9, 0}, {9, 18, 9}, {0, 9, 18}};
        for (int step = 0; step < 3; step++) {
            for (int k = 0; k < 3; k++) {
                CHECK.due("7: hull " + k + " at " + step, x.pressed(k, step), due[step][k]);
            }
        }
    }

    /** "a CART is on the bridge if its HULL is one of these": one beside it presses nothing. */
    private static void cartsOffTheBridge() {
        BoatBridge x = new BoatBridge(3);
        x.cart(9, 1);
        CHECK.due("7: just over", x.pressed(2, 3), 0);
        x.cart(5, 4);
        CHECK.due("7: the second isn't yet on", x.pressed(0, 3), 0);
        CHECK.due("7: the second comes on", x.pressed(0, 4), 10);
        CHECK.due("7: the second on the last", x.pressed(2, 6), 10);
        CHECK.due("7: the second just over", x.pressed(2, 7), 0);
    }

    /** Six carts with gaps of 12 on twelve hulls: the last is on hull 11 at step 71. */
    private static void longestTrain() {
        BoatBridge x = new BoatBridge(12);
        for (int i = 1; i <= 5; i++) {
            x.cart(1, 12);
        }
        x.cart(400, 12);
        CHECK.due("7: the last one's last step", x.pressed(11, 71), 800);
        CHECK.due("7: it is over", x.pressed(11, 72), 0);
        x.hull(11, 1, 0);
        CHECK.due("8: margin there", x.worst(0), 4 - 800);
        CHECK.due("8: hull 11", x.worst(1), 11);
        CHECK.due("8: step 71", x.worst(2), 71);
    }

    /** "HOLDS if no MARGIN is below 0": at 0 it holds. */
    private static void marginOfZero() {
        BoatBridge x = new BoatBridge(2);
        x.cart(200, 1);
        CHECK.due("8: margin 0", x.worst(0), 0);
        CHECK.due("9: it holds", x.gap(), 1);
        x.clear();
        x.cart(199, 1);
        CHECK.due("8: margin 2", x.worst(0), 2);
        CHECK.due("9: it holds", x.gap(), 1);
        x.clear();
        x.cart(201, 1);
        CHECK.due("8: margin -2", x.worst(0), -2);
        CHECK.due("9: it doesn't hold", x.gap(), -1);
        int[][] seconds = {{99, 1, 1}, {100, 0, 1}, {101, -1, 2}};
        for (int[] second : seconds) {
            x.clear();
            x.cart(150, 1);
            x.cart(second[0], 1);
            CHECK.due("8: 300 and " + second[0] + " on one hull", x.worst(0), second[1]);
            CHECK.due("9: 300 and " + second[0] + " on one hull", x.gap(), second[2]);
        }
    }

    private static void deepestMargin() {
        BoatBridge x = new BoatBridge(12);
        for (int k = 0; k < 12; k++) {
            x.hull(k, 1, 0);
        }
        for (int i = 0; i < 6; i++) {
            x.cart(400, 1);
        }
        CHECK.due("8: 4 less 1600", x.worst(0), -1596);
        CHECK.due("8: the lowest hull that three press", x.worst(1), 1);
        CHECK.due("8: as soon as the third is on", x.worst(2), 2);
    }

    /** "its STEP (2; the earliest, of that the lowest HULL)". */
    private static void worstOfLikeOnes() {
        BoatBridge x = new BoatBridge(3);
        x.hull(0, 75, 0);
        x.hull(1, 50, 0);
        x.hull(2, 1000, 0);
        x.cart(100, 1);
        // Step 0 leaves 100 on hulls 0 and 1 alike; step 1 leaves 200 and 0.
        CHECK.due("8: the least", x.worst(0), 0);
        CHECK.due("8: its hull", x.worst(1), 1);
        CHECK.due("8: its step", x.worst(2), 1);
        BoatBridge two = new BoatBridge(4);
        two.cart(50, 1);
        two.cart(50, 3);
        // At step 3 hulls 0 and 3 are pressed alike, but hull 0 was so at step 0.
        CHECK.due("8: like ones at steps 0 and 3", two.worst(2), 0);
        two.hull(0, 1000, 0);
        two.hull(1, 1000, 0);
        two.hull(2, 1000, 0);
        CHECK.due("8: hull 3 at steps 3 and 6", two.worst(2), 3);
        CHECK.due("8: hull 3", two.worst(1), 3);
        BoatBridge low = new BoatBridge(2);
        low.hull(0, 100, 0);
        low.hull(1, 75, 0);
        low.cart(100, 1);
        // Step 0: 400 - 200 of hull 0 and 300 - 100 of hull 1; step 1: 300 and 100.
        CHECK.due("8: step 1 is less", low.worst(2), 1);
        low.cart(200, 1);
        low.hull(0, 200, 0);
        low.hull(1, 200, 0);
        // Step 1: 800 - 500 and 800 - 400; step 2: 800 - 200 and 800 - 400.
        CHECK.due("8: hull 0 at step 1", low.worst(1), 0);
        low.hull(0, 225, 0);
        // Step 1: both 400; step 2: 700 and 400.
        CHECK.due("8: of like ones at one step", low.worst(0), 400);
        CHECK.due("8: the lowest hull", low.worst(1), 0);
        CHECK.due("8: the earliest step", low.worst(2), 1);
    }

    /** "-100000: no CARTS, others." */
    private static void worstOfOthers() {
        BoatBridge x = new BoatBridge(3);
        for (int what : new int[] {LOW, -1, 0, 1, 2, 3, HIGH}) {
            CHECK.due("8: no carts, what " + what, x.worst(what), -100000);
        }
        x.cart(1, 1);
        int[][] due = {{LOW, -100000}, {-1, -100000}, {0, 398}, {1, 0}, {2, 0}, {3, -100000}, {HIGH, -100000}};
        for (int[] d : due) {
            CHECK.due("8: what " + d[0], x.worst(d[0]), d[1]);
        }
    }

    /** No gap above 2 is ever needed: every hull bears every cart alone, and two apart press no more. */
    private static void gapsThatHold() {
        BoatBridge x = new BoatBridge(12);
        CHECK.due("9: no carts", x.gap(), -1);
        for (int i = 0; i < 6; i++) {
            x.cart(100, 12);
        }
        CHECK.due("9: 400 under three of 100", x.gap(), 1);
        x.hull(6, 99, 0);
        CHECK.due("9: 396 under three of 100", x.gap(), 2);
        x.hull(6, 50, 0);
        CHECK.due("9: 200 under one of 100", x.gap(), 2);
        x.hull(6, 49, 0);
        CHECK.due("9: 196 under one of 100", x.gap(), -1);
        x.hull(6, 100, 0);
        CHECK.due("9: the gaps are as told", x.pressed(0, 60), 200);
        CHECK.due("9: and none between", x.pressed(0, 59), 0);
    }

    private static void gapOfOneHull() {
        BoatBridge x = new BoatBridge(1);
        for (int i = 0; i < 6; i++) {
            x.cart(200, 5);
        }
        CHECK.due("9: one hull has one cart at a time", x.gap(), 1);
        x.hull(0, 99, 0);
        CHECK.due("9: and can't bear it", x.gap(), -1);
    }
}
