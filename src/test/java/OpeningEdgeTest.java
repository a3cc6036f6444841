/** The boundary cases of promises 10 to 15, one method for each sentence that names one. */
public final class OpeningEdgeTest {
    private static final Check CHECK = new Check();
    private static final int LOW = Integer.MIN_VALUE;
    private static final int HIGH = Integer.MAX_VALUE;

    public static void main(String[] args) {
        shipMinutes();
        tenShips();
        numbersAsTold();
        crosserMinutes();
        thirtyCrossers();
        firstTimes();
        eachTimesRange();
        refusedTimesSetNone();
        noShipsNoWaits();
        shipThatComesWithTheOpening();
        openingAtTheEndOfTheOneBefore();
        crossersAtBothEnds();
        lastMinuteOfAnOpening();
        noOpeningBehind299();
        earliestFirstOpening();
        earliestSecondOpening();
        openingsThatThereAre();
        whatOfAnOpening();
        bestFollowsWhatIsTold();
        atOnceOfNone();
        atOnceAtTheEnd();
        atOnceBehind299();
        longestWaits();
        CHECK.done();
    }

    private static BoatBridge with(int... ships) {
        BoatBridge x = new BoatBridge(1);
        for (int minute : ships) {
            x.ship(minute);
        }
        return x;
    }

    /** "the MINUTE at which it comes (0 .. 239)"; "NONE for others". */
    private static void shipMinutes() {
        BoatBridge x = new BoatBridge(1);
        for (int minute : new int[] {LOW, -1, 240, 299, 300, HIGH}) {
            CHECK.due("10: ship(" + minute + ")", x.ship(minute), -1);
            CHECK.due("10: none came", x.about(2), 0);
            CHECK.due("10: none waits", x.waits(), 0);
        }
        CHECK.due("10: ship(0)", x.ship(0), 0);
        CHECK.due("10: opening at 0", x.opening(0, 0), 0);
        CHECK.due("10: ship(239)", x.ship(239), 1);
        CHECK.due("10: opening at 239", x.opening(1, 0), 239);
        CHECK.due("10: ship(240) behind them", x.ship(240), -1);
        CHECK.due("10: two", x.about(2), 2);
    }

    /** "or if there are 10". */
    private static void tenShips() {
        BoatBridge x = new BoatBridge(1);
        for (int i = 0; i < 10; i++) {
            CHECK.due("10: ship " + i, x.ship(100), i);
            CHECK.due("25: ships", x.about(2), i + 1);
        }
        int waits = x.waits();
        CHECK.due("13: ten of one minute", waits, 2 * (10 * 3 + 2 * 55));
        for (int minute : new int[] {0, 100, 239, -1, 240}) {
            CHECK.due("10: an eleventh at " + minute, x.ship(minute), -1);
            CHECK.due("10: ten", x.about(2), 10);
            CHECK.due("10: waits as before", x.waits(), waits);
            CHECK.due("10: at once as before", x.atOnce(), waits);
        }
        CHECK.due("14: ten in one opening", x.opening(0, 1), 10);
    }

    /** "its number (as told)": not the place in order of coming. */
    private static void numbersAsTold() {
        BoatBridge x = new BoatBridge(1);
        for (int i = 0; i < 10; i++) {
            CHECK.due("10: number " + i, x.ship(239 - 20 * i), i);
        }
        CHECK.due("10: the first opening is for the last told", x.opening(0, 0), 59);
        CHECK.due("10: the last for the first told", x.opening(9, 0), 239);
    }

    /** "CROSSERS ..., each told with the MINUTE at which it comes (0 .. 239)". */
    private static void crosserMinutes() {
        BoatBridge x = with(0, 239);
        int waits = x.waits();
        for (int minute : new int[] {LOW, -1, 240, 299, 300, HIGH}) {
            CHECK.due("11: crosser(" + minute + ")", x.crosser(minute), -1);
            CHECK.due("11: none came", x.about(3), 0);
            CHECK.due("11: waits as before", x.waits(), waits);
            CHECK.due("11: at once as before", x.atOnce(), waits);
        }
        CHECK.due("11: crosser(0)", x.crosser(0), 1);
        CHECK.due("11: it waits for the first end", x.atOnce(), waits + 8);
        CHECK.due("11: crosser(239)", x.crosser(239), 2);
        CHECK.due("11: it waits for the second end", x.atOnce(), waits + 16);
    }

    /** "or if there are 30". */
    private static void thirtyCrossers() {
        BoatBridge x = with(100);
        for (int i = 1; i <= 30; i++) {
            CHECK.due("11: crosser " + i, x.crosser(100), i);
        }
        int waits = x.waits();
        int atOnce = x.atOnce();
        CHECK.due("15: thirty wait 8 each", atOnce, 10 + 30 * 8);
        CHECK.due("13: none waits if the ship waits a minute", waits, 12);
        for (int minute : new int[] {0, 100, 101, 239}) {
            CHECK.due("11: a thirty-first at " + minute, x.crosser(minute), -1);
            CHECK.due("11: thirty", x.about(3), 30);
            CHECK.due("11: waits as before", x.waits(), waits);
            CHECK.due("11: at once as before", x.atOnce(), atOnce);
        }
    }

    /** "at first 3, 2, 3", "at first 2": together they answer for each alone. */
    private static void firstTimes() {
        BoatBridge x = with(50);
        CHECK.due("12: OPEN, EACH, SHUT at first", x.opening(0, 2), 58);
        CHECK.due("12: RANK times OPEN and EACH", x.waits(), 10);
        x.ship(50);
        CHECK.due("12: EACH once more", x.opening(0, 2), 60);
        CHECK.due("12: RANK times OPEN, EACH, OPEN, 2 EACH", x.waits(), 24);
    }

    /** "OPEN, EACH, SHUT (1 .. 20)", "RANK (1 .. 9)". */
    private static void eachTimesRange() {
        int[] highest = {20, 20, 20, 9};
        for (int place = 0; place < 4; place++) {
            BoatBridge x = with(50);
            int[] t = {2, 3, 4, 5};
            for (int wrong : new int[] {LOW, -1, 0, highest[place] + 1, HIGH}) {
                t[place] = wrong;
                CHECK.due("12: place " + place + ", " + wrong, x.times(t[0], t[1], t[2], t[3]), false);
                CHECK.due("12: waits as before", x.waits(), 10);
                CHECK.due("12: end as before", x.opening(0, 2), 58);
            }
            for (int right : new int[] {1, highest[place]}) {
                t[place] = right;
                CHECK.due("12: place " + place + ", " + right, x.times(t[0], t[1], t[2], t[3]), true);
                CHECK.due("12: waits by it", x.waits(), t[3] * (t[0] + t[1]));
                CHECK.due("12: end by it", x.opening(0, 2), 50 + t[0] + t[1] + t[2]);
                CHECK.due("12: at once by it", x.atOnce(), t[3] * (t[0] + t[1]));
            }
        }
    }

    /** "False, changing nothing": the three right ones aren't taken either. */
    private static void refusedTimesSetNone() {
        BoatBridge x = with(50, 51, 90);
        x.times(7, 5, 6, 4);
        int waits = x.waits();
        int atOnce = x.atOnce();
        int end = x.opening(0, 2);
        int[][] wrong = {{0, 20, 20, 9}, {1, 0, 1, 1}, {20, 20, 21, 9}, {1, 1, 1, 10}};
        for (int[] w : wrong) {
            CHECK.due("12: times " + w[0] + " ..", x.times(w[0], w[1], w[2], w[3]), false);
            CHECK.due("12: waits", x.waits(), waits);
            CHECK.due("12: at once", x.atOnce(), atOnce);
            CHECK.due("12: end", x.opening(0, 2), end);
        }
    }

    /** Without ships no opening is needed, and crossers don't wait. */
    private static void noShipsNoWaits() {
        BoatBridge x = new BoatBridge(1);
        for (int crossers = 0; crossers < 3; crossers++) {
            CHECK.due("13: no ships", x.waits(), 0);
            CHECK.due("15: no ships", x.atOnce(), 0);
            for (int what = 0; what < 3; what++) {
                CHECK.due("14: no ships", x.opening(0, what), -1);
            }
            x.crosser(5);
        }
    }

    /** "all SHIPS that have come by t": one of minute t goes through, one of t + 1 doesn't. */
    private static void shipThatComesWithTheOpening() {
        BoatBridge x = with(10, 10);
        CHECK.due("13: both at 10", x.opening(0, 1), 2);
        CHECK.due("13: both at 10, waits", x.waits(), 2 * (5 + 7));
        BoatBridge apart = with(10, 11);
        // At once: 10 to 18, the other at 18, waits 5 and 12. THE BEST: both at 11, waits 6 and 7.
        CHECK.due("15: 11 isn't there at 10", apart.atOnce(), 2 * (5 + 12));
        CHECK.due("13: both at 11", apart.waits(), 2 * (6 + 7));
        CHECK.due("14: at 11", apart.opening(0, 0), 11);
        CHECK.due("14: both", apart.opening(0, 1), 2);
        CHECK.due("14: no other", apart.opening(1, 0), -1);
    }

    /** "not ahead of the end of the one before": at the end itself it may be. */
    private static void openingAtTheEndOfTheOneBefore() {
        BoatBridge x = with(0, 8);
        CHECK.due("13: at 0 and at 8", x.waits(), 20);
        CHECK.due("14: at the end", x.opening(1, 0), 8);
        CHECK.due("15: at 0 and at 8", x.atOnce(), 20);
        BoatBridge early = with(0, 7);
        CHECK.due("13: 7 has to wait a minute", early.waits(), 22);
        CHECK.due("14: at the end, not ahead of it", early.opening(1, 0), 8);
        CHECK.due("15: 7 has to wait a minute", early.atOnce(), 22);
        BoatBridge late = with(0, 9);
        CHECK.due("13: 9 has not", late.waits(), 20);
        CHECK.due("14: behind the end", late.opening(1, 0), 9);
    }

    /** "CROSSERS that come from t to the MINUTE ahead of the end wait till the end." */
    private static void crossersAtBothEnds() {
        int[][] due = {{99, 0}, {100, 8}, {101, 7}, {106, 2}, {107, 1}, {108, 0}, {109, 0}};
        for (int[] d : due) {
            BoatBridge x = with(100);
            x.crosser(d[0]);
            CHECK.due("15: a crosser at " + d[0], x.atOnce(), 10 + d[1]);
            BoatBridge dear = with(100);
            dear.times(3, 2, 3, 9);
            dear.crosser(d[0]);
            CHECK.due("13: a crosser at " + d[0], dear.waits(), 45 + d[1]);
        }
        BoatBridge last = with(239);
        last.crosser(239);
        CHECK.due("15: both at 239", last.atOnce(), 18);
        CHECK.due("13: the ship a minute later", last.waits(), 12);
        CHECK.due("14: at 240", last.opening(0, 0), 240);
        BoatBridge twice = with(0, 8);
        twice.times(3, 2, 3, 9);
        twice.crosser(8);
        CHECK.due("15: a crosser at one's end is in the next", twice.atOnce(), 90 + 8);
        twice.crosser(7);
        CHECK.due("15: one ahead of it waits for the first alone", twice.atOnce(), 90 + 9);
    }

    /** "none beginning behind MINUTE 299": at 299 itself it may. */
    private static void lastMinuteOfAnOpening() {
        BoatBridge x = with(219, 219, 239);
        x.times(20, 20, 20, 1);
        CHECK.due("14: the first", x.opening(0, 0), 219);
        CHECK.due("14: its end", x.opening(0, 2), 299);
        CHECK.due("14: the second at 299", x.opening(1, 0), 299);
        CHECK.due("14: the second's end", x.opening(1, 2), 359);
        CHECK.due("13: waits", x.waits(), 40 + 60 + 100);
        CHECK.due("15: the same at once", x.atOnce(), 200);
    }

    private static void noOpeningBehind299() {
        BoatBridge x = with(220, 220, 239);
        x.times(20, 20, 20, 1);
        // At 220 and 300 it would be 201, but 300 is too late.
        CHECK.due("13: all in one", x.waits(), 59 + 79 + 80);
        CHECK.due("14: at 239", x.opening(0, 0), 239);
        CHECK.due("14: all", x.opening(0, 1), 3);
        CHECK.due("14: its end behind 299", x.opening(0, 2), 339);
        CHECK.due("14: no second", x.opening(1, 0), -1);
    }

    /** "of like ones the one whose first OPENING is the earliest". */
    private static void earliestFirstOpening() {
        BoatBridge x = with(10);
        x.times(1, 1, 1, 3);
        x.crosser(10);
        CHECK.due("13: 9 at 10 as at 11", x.waits(), 9);
        CHECK.due("14: at 10", x.opening(0, 0), 10);
        BoatBridge two = with(10);
        two.times(1, 1, 1, 2);
        two.crosser(10);
        CHECK.due("13: 7 at 10, 6 at 11", two.waits(), 6);
        CHECK.due("14: at 11", two.opening(0, 0), 11);
        BoatBridge last = with(239);
        last.times(1, 1, 1, 3);
        last.crosser(239);
        CHECK.due("14: at 239 as at 240", last.opening(0, 0), 239);
    }

    /** "then the second, and so on". */
    private static void earliestSecondOpening() {
        BoatBridge x = with(10, 50, 90);
        x.times(1, 1, 1, 3);
        x.crosser(50);
        x.crosser(90);
        CHECK.due("13: like ones", x.waits(), 6 + 9 + 9);
        CHECK.due("14: the first", x.opening(0, 0), 10);
        CHECK.due("14: the second at 50", x.opening(1, 0), 50);
        CHECK.due("14: the third at 90", x.opening(2, 0), 90);
        // One more ahead of 50 ends: 50 is dearer now, 51 isn't; and the first stays.
        x.crosser(50);
        CHECK.due("14: the first stays", x.opening(0, 0), 10);
        CHECK.due("14: the second at 51", x.opening(1, 0), 51);
        CHECK.due("14: the third stays", x.opening(2, 0), 90);
    }

    /** "OPENING i (from 0) ... NONE if there is none such." */
    private static void openingsThatThereAre() {
        for (int ships = 0; ships <= 10; ships++) {
            BoatBridge x = new BoatBridge(1);
            for (int i = 0; i < ships; i++) {
                x.ship(20 * i);
            }
            for (int what = 0; what < 3; what++) {
                for (int i : new int[] {LOW, -1, ships, ships + 1, 10, 11, HIGH}) {
                    CHECK.due("14: opening(" + i + ", " + what + ") of " + ships, x.opening(i, what), -1);
                }
            }
            if (ships > 0) {
                CHECK.due("14: the first of " + ships, x.opening(0, 0), 0);
                CHECK.due("14: the last of " + ships, x.opening(ships - 1, 0), 20 * ships - 20);
                CHECK.due("14: the last one's ships", x.opening(ships - 1, 1), 1);
                CHECK.due("14: the last one's end", x.opening(ships - 1, 2), 20 * ships - 12);
                CHECK.due("13: each alone", x.waits(), 10 * ships);
                CHECK.due("15: each alone", x.atOnce(), 10 * ships);
            }
        }
    }

    private static void whatOfAnOpening() {
        BoatBridge x = with(30, 31);
        int[][] due = {{LOW, -1}, {-1, -1}, {0, 31}, {1, 2}, {2, 41}, {3, -1}, {HIGH, -1}};
        for (int[] d : due) {
            CHECK.due("14: opening(0, " + d[0] + ")", x.opening(0, d[0]), d[1]);
        }
    }

    /** Ships, crossers and times told behind an answer count in the next one. */
    private static void bestFollowsWhatIsTold() {
        BoatBridge x = with(100);
        CHECK.due("13: one", x.waits(), 10);
        x.ship(20);
        CHECK.due("13: one more, ahead of it", x.waits(), 20);
        CHECK.due("14: it is the first", x.opening(0, 0), 20);
        x.crosser(103);
        CHECK.due("13: a crosser", x.waits(), 25);
        x.times(1, 1, 1, 1);
        CHECK.due("13: other times", x.waits(), 4);
        CHECK.due("14: other ends", x.opening(1, 2), 103);
    }

    private static void atOnceOfNone() {
        BoatBridge x = new BoatBridge(1);
        CHECK.due("15: none", x.atOnce(), 0);
        x.ship(0);
        CHECK.due("15: at 0", x.atOnce(), 10);
        BoatBridge last = with(239);
        CHECK.due("15: at 239", last.atOnce(), 10);
    }

    /** "at once as a SHIP waits and the one before has ended". */
    private static void atOnceAtTheEnd() {
        int[][] due = {{7, 10 + 12}, {8, 20}, {9, 20}};
        for (int[] d : due) {
            CHECK.due("15: 0 and " + d[0], with(0, d[0]).atOnce(), d[1]);
        }
        BoatBridge three = with(0, 1, 8);
        CHECK.due("15: 1 and 8 at 8", three.atOnce(), 2 * (5 + 12 + 7));
        BoatBridge late = with(0, 1, 9);
        CHECK.due("15: 1 at 8, 9 at 16", late.atOnce(), 2 * (5 + 12 + 12));
    }

    /** "NONE as waits()": no opening begins behind 299. */
    private static void atOnceBehind299() {
        BoatBridge at299 = with(219, 219, 239);
        at299.times(20, 20, 20, 1);
        CHECK.due("15: begins at 299", at299.atOnce(), 200);
        BoatBridge at300 = with(220, 220, 239);
        at300.times(20, 20, 20, 1);
        CHECK.due("15: would begin at 300", at300.atOnce(), -1);
        BoatBridge at301 = with(221, 221, 239);
        at301.times(20, 20, 20, 1);
        CHECK.due("15: would begin at 301", at301.atOnce(), -1);
    }

    /** The longest that can be told: ten ships, the longest times, all at the end. */
    private static void longestWaits() {
        BoatBridge x = new BoatBridge(1);
        x.times(20, 20, 20, 9);
        for (int i = 0; i < 10; i++) {
            x.ship(239);
        }
        for (int i = 0; i < 30; i++) {
            x.crosser(239);
        }
        CHECK.due("13: 9 times all, a minute later", x.waits(), 9 * (10 * 21 + 20 * 55));
        CHECK.due("14: at 240", x.opening(0, 0), 240);
        CHECK.due("14: its end", x.opening(0, 2), 240 + 40 + 200);
        CHECK.due("15: at 239 with thirty crossers", x.atOnce(), 9 * (10 * 20 + 20 * 55) + 30 * 240);
    }
}
