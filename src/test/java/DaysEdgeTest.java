/** The boundary cases of promises 16 to 19, one method for each sentence that names one. */
public final class DaysEdgeTest {
    private static final Check CHECK = new Check();
    private static final int LOW = Integer.MIN_VALUE;
    private static final int HIGH = Integer.MAX_VALUE;

    public static void main(String[] args) {
        newDays();
        firstLimits();
        daysTold();
        lowsTold();
        highsTold();
        highAtLow();
        noneAnyMore();
        refusedLevelKeepsTheFormer();
        mostTold();
        laysTold();
        refusedFloodSetsNeither();
        highAtMost();
        noneIsBadAtAnyMost();
        noneAndAllOut();
        runsOfLays();
        runAtTheFirstDay();
        shortRunAtTheLastDay();
        noShortRunAheadOfTheLastDay();
        joinedRuns();
        latestOfLikeSets();
        daysAsked();
        whatAsked();
        CHECK.done();
    }

    private static BoatBridge calm(int... bad) {
        BoatBridge x = new BoatBridge(1);
        for (int day = 0; day < 60; day++) {
            x.level(day, 0, 50);
        }
        for (int day : bad) {
            x.level(day, 0, 51);
        }
        return x;
    }

    /** Out are the days of these runs, each from and to, and no other. */
    private static void dueRuns(String told, BoatBridge x, int... ends) {
        int count = 0;
        for (int day = 0; day < 60; day++) {
            int out = 0;
            for (int i = 0; i < ends.length; i += 2) {
                out |= day >= ends[i] && day <= ends[i + 1] ? 1 : 0;
            }
            count += out;
            CHECK.due("19: " + told + ", day " + day, x.outOn(day, 0), out);
        }
        CHECK.due("18: " + told, x.out(), count);
    }

    /** "a LEVEL foretold ..., or none": at first none, so every day is bad and out. */
    private static void newDays() {
        BoatBridge x = new BoatBridge(1);
        dueRuns("a new object", x, 0, 59);
        for (int day = 0; day < 60; day++) {
            CHECK.due("19: a new object, bad " + day, x.outOn(day, 1), 1);
        }
    }

    /** "MOST (at first 50), LAYS (at first 3)". */
    private static void firstLimits() {
        BoatBridge x = calm();
        CHECK.due("17: 50 isn't above MOST", x.out(), 0);
        x.level(30, 50, 51);
        dueRuns("51 is, for 3 days", x, 30, 32);
    }

    /** "DAYS 0 .. 59"; "False for others". */
    private static void daysTold() {
        BoatBridge x = calm();
        for (int day : new int[] {LOW, -1, 60, HIGH}) {
            CHECK.due("16: level(" + day + ", 0, 99)", x.level(day, 0, 99), false);
            CHECK.due("16: level(" + day + ", -1, 0)", x.level(day, -1, 0), false);
            CHECK.due("16: none is out", x.out(), 0);
        }
        CHECK.due("16: level(0, 0, 99)", x.level(0, 0, 99), true);
        CHECK.due("16: level(59, 0, 99)", x.level(59, 0, 99), true);
        CHECK.due("19: day 0 is bad", x.outOn(0, 1), 1);
        CHECK.due("19: day 59 is bad", x.outOn(59, 1), 1);
        CHECK.due("19: day 1 isn't", x.outOn(1, 1), 0);
        CHECK.due("19: day 58 isn't", x.outOn(58, 1), 0);
    }

    /** "from LOW ... (0 .. 99)". */
    private static void lowsTold() {
        BoatBridge x = calm();
        for (int low : new int[] {LOW, -2, 100, HIGH}) {
            CHECK.due("16: level(7, " + low + ", 99)", x.level(7, low, 99), false);
            CHECK.due("16: level(7, " + low + ", " + low + ")", x.level(7, low, low), false);
            CHECK.due("16: none is out", x.out(), 0);
        }
        CHECK.due("16: LOW 0", x.level(7, 0, 99), true);
        CHECK.due("19: LOW 0, HIGH 99: bad", x.outOn(7, 1), 1);
        CHECK.due("16: LOW 99", x.level(8, 99, 99), true);
        CHECK.due("19: LOW 99, HIGH 99: bad", x.outOn(8, 1), 1);
    }

    /** "to HIGH (0 .. 99)". */
    private static void highsTold() {
        BoatBridge x = calm();
        for (int high : new int[] {LOW, -2, -1, 100, HIGH}) {
            CHECK.due("16: level(7, 0, " + high + ")", x.level(7, 0, high), false);
            CHECK.due("16: none is out", x.out(), 0);
        }
        x.flood(98, 1);
        CHECK.due("16: HIGH 99", x.level(7, 0, 99), true);
        CHECK.due("19: above 98", x.outOn(7, 1), 1);
        x.flood(0, 1);
        CHECK.due("16: HIGH 0", x.level(7, 0, 0), true);
        CHECK.due("19: not above 0", x.outOn(7, 1), 0);
    }

    /** "or HIGH below LOW". */
    private static void highAtLow() {
        BoatBridge x = calm();
        for (int low : new int[] {1, 60, 98, 99}) {
            CHECK.due("16: one below " + low, x.level(7, low, low - 1), false);
            CHECK.due("19: as before", x.outOn(7, 1), 0);
        }
        for (int low : new int[] {60, 98, 99}) {
            CHECK.due("16: as high as " + low, x.level(7, low, low), true);
            CHECK.due("19: bad", x.outOn(7, 1), 1);
            x.level(7, 0, 0);
        }
        CHECK.due("16: 0 as high as 0", x.level(7, 0, 0), true);
        CHECK.due("16: one above", x.level(7, 50, 51), true);
        CHECK.due("19: bad", x.outOn(7, 1), 1);
    }

    /** "(LOW NONE: none any more): true." */
    private static void noneAnyMore() {
        BoatBridge x = calm();
        for (int high : new int[] {0, 50, 99, -1, 100}) {
            x.level(59, 0, 0);
            CHECK.due("19: foretold", x.outOn(59, 1), 0);
            CHECK.due("16: level(59, NONE, " + high + ")", x.level(59, BoatBridge.NONE, high), true);
            CHECK.due("19: none any more", x.outOn(59, 1), 1);
            CHECK.due("18: it is out", x.out(), 1);
        }
        CHECK.due("16: none twice", x.level(59, -1, 0), true);
        CHECK.due("18: as before", x.out(), 1);
        CHECK.due("16: foretold again", x.level(59, 1, 2), true);
        CHECK.due("18: none is out", x.out(), 0);
        CHECK.due("16: none of day 0", x.level(0, -1, 0), true);
        dueRuns("none of day 0", x, 0, 2);
    }

    /** A refused level leaves a bad day bad and a good one good. */
    private static void refusedLevelKeepsTheFormer() {
        BoatBridge x = calm(20);
        x.level(40, -1, 0);
        int[][] wrong = {{-2, 10}, {10, 9}, {10, 100}, {100, 100}};
        for (int[] w : wrong) {
            for (int day : new int[] {10, 20, 40}) {
                CHECK.due("16: level(" + day + ", " + w[0] + ", " + w[1] + ")", x.level(day, w[0], w[1]), false);
            }
            CHECK.due("19: 10 is good", x.outOn(10, 1), 0);
            CHECK.due("19: 20 is bad", x.outOn(20, 1), 1);
            CHECK.due("19: 40 is bad", x.outOn(40, 1), 1);
            dueRuns("as before", x, 20, 22, 40, 42);
        }
    }

    /** "MOST (0 .. 99)". */
    private static void mostTold() {
        BoatBridge x = calm(20);
        for (int most : new int[] {LOW, -1, 100, HIGH}) {
            CHECK.due("17: flood(" + most + ", 3)", x.flood(most, 3), false);
            dueRuns("as before", x, 20, 22);
        }
        CHECK.due("17: flood(0, 3)", x.flood(0, 3), true);
        CHECK.due("18: all above 0", x.out(), 60);
        CHECK.due("17: flood(99, 3)", x.flood(99, 3), true);
        CHECK.due("18: none above 99", x.out(), 0);
    }

    /** "LAYS (1 .. 9)". */
    private static void laysTold() {
        BoatBridge x = calm(20);
        for (int lays : new int[] {LOW, -1, 0, 10, HIGH}) {
            CHECK.due("17: flood(50, " + lays + ")", x.flood(50, lays), false);
            dueRuns("as before", x, 20, 22);
        }
        for (int lays = 1; lays <= 9; lays++) {
            CHECK.due("17: flood(50, " + lays + ")", x.flood(50, lays), true);
            dueRuns("LAYS " + lays, x, 20, 19 + lays);
        }
    }

    /** "False, changing nothing": the right one of the two isn't taken either. */
    private static void refusedFloodSetsNeither() {
        BoatBridge x = calm(20);
        int[][] wrong = {{-1, 9}, {100, 1}, {0, 0}, {99, 10}};
        for (int[] w : wrong) {
            CHECK.due("17: flood(" + w[0] + ", " + w[1] + ")", x.flood(w[0], w[1]), false);
            dueRuns("as before", x, 20, 22);
            CHECK.due("19: 20 is bad as before", x.outOn(20, 1), 1);
            CHECK.due("19: 21 is good as before", x.outOn(21, 1), 0);
        }
    }

    /** "BAD if its HIGH is above MOST". */
    private static void highAtMost() {
        for (int most : new int[] {0, 1, 50, 98}) {
            BoatBridge x = new BoatBridge(1);
            x.flood(most, 1);
            x.level(5, 0, most);
            x.level(6, 0, most + 1);
            CHECK.due("19: HIGH at " + most, x.outOn(5, 1), 0);
            CHECK.due("19: HIGH above " + most, x.outOn(6, 1), 1);
        }
        BoatBridge low = calm();
        low.level(5, 50, 50);
        CHECK.due("19: LOW at MOST isn't bad", low.outOn(5, 1), 0);
    }

    private static void noneIsBadAtAnyMost() {
        BoatBridge x = calm();
        x.level(5, -1, 0);
        for (int most : new int[] {50, 98, 99}) {
            x.flood(most, 1);
            CHECK.due("19: none foretold, MOST " + most, x.outOn(5, 1), 1);
            dueRuns("MOST " + most, x, 5, 5);
        }
    }

    private static void noneAndAllOut() {
        for (int lays = 1; lays <= 9; lays++) {
            BoatBridge x = calm();
            x.flood(50, lays);
            dueRuns("none is bad", x);
            BoatBridge all = new BoatBridge(1);
            all.flood(99, lays);
            dueRuns("all are bad", all, 0, 59);
        }
    }

    /** "in runs of LAYS DAYS at least each": as many bad ones as LAYS, one fewer, one more. */
    private static void runsOfLays() {
        dueRuns("two bad ones", calm(30, 31), 30, 32);
        dueRuns("three bad ones", calm(30, 31, 32), 30, 32);
        dueRuns("four bad ones", calm(30, 31, 32, 33), 30, 33);
        dueRuns("the first and third", calm(30, 32), 30, 32);
    }

    private static void runAtTheFirstDay() {
        dueRuns("day 0", calm(0), 0, 2);
        dueRuns("day 1", calm(1), 1, 3);
        BoatBridge x = calm(0);
        x.flood(50, 9);
        dueRuns("day 0, nine", x, 0, 8);
    }

    /** "(a run that ends with DAY 59 may be shorter)". */
    private static void shortRunAtTheLastDay() {
        for (int lays = 1; lays <= 9; lays++) {
            for (int day = 50; day < 60; day++) {
                BoatBridge x = calm(day);
                x.flood(50, lays);
                dueRuns("bad " + day + ", LAYS " + lays, x, day, Math.min(59, day + lays - 1));
            }
        }
        dueRuns("59 alone", calm(59), 59, 59);
        dueRuns("58 and 59", calm(58, 59), 58, 59);
    }

    /** A run that ends with day 58 is no exception. */
    private static void noShortRunAheadOfTheLastDay() {
        dueRuns("57 and 58", calm(57, 58), 57, 59);
        dueRuns("58", calm(58), 58, 59);
        dueRuns("56 and 58", calm(56, 58), 56, 58);
        BoatBridge x = calm(51, 58);
        x.flood(50, 9);
        dueRuns("nine from 51 on", x, 51, 59);
        BoatBridge two = calm(50, 59);
        two.flood(50, 9);
        dueRuns("nine from 50 on and the last", two, 50, 59);
        BoatBridge apart = calm(49, 59);
        apart.flood(50, 9);
        dueRuns("nine from 49 on, one between, the last", apart, 49, 57, 59, 59);
    }

    /** Two runs join where that makes no more days than two apart. */
    private static void joinedRuns() {
        dueRuns("three apart: one run", calm(10, 13), 10, 13);
        dueRuns("four apart: one run", calm(10, 14), 10, 14);
        dueRuns("six apart: two runs", calm(10, 16), 10, 12, 16, 18);
        dueRuns("the second at the end", calm(55, 59), 55, 57, 59, 59);
        dueRuns("the second at the end, three apart", calm(56, 59), 56, 59);
    }

    /** "of like ones the one whose first OUT DAY is the latest, then the second, and so on". */
    private static void latestOfLikeSets() {
        dueRuns("five apart: 10 .. 15 or two runs, both six", calm(10, 15), 10, 12, 15, 17);
        dueRuns("twice five apart", calm(10, 15, 20), 10, 12, 15, 17, 20, 22);
        dueRuns("one day: none ahead of it", calm(30), 30, 32);
        BoatBridge x = calm(10, 19);
        x.flood(50, 5);
        dueRuns("nine apart with LAYS 5: both ten", x, 10, 14, 19, 23);
        BoatBridge one = calm(10, 18);
        one.flood(50, 5);
        dueRuns("eight apart with LAYS 5: nine or ten", one, 10, 18);
    }

    /** "NONE for others": days. */
    private static void daysAsked() {
        BoatBridge x = calm(0, 59);
        for (int what = 0; what <= 1; what++) {
            for (int day : new int[] {LOW, -1, 60, HIGH}) {
                CHECK.due("19: outOn(" + day + ", " + what + ")", x.outOn(day, what), -1);
            }
            CHECK.due("19: outOn(0, " + what + ")", x.outOn(0, what), 1);
            CHECK.due("19: outOn(59, " + what + ")", x.outOn(59, what), 1);
            CHECK.due("19: outOn(30, " + what + ")", x.outOn(30, what), 0);
        }
        CHECK.due("19: out and good", x.outOn(1, 0), 1);
        CHECK.due("19: out and good, bad", x.outOn(1, 1), 0);
    }

    private static void whatAsked() {
        BoatBridge x = calm(5);
        for (int what : new int[] {LOW, -1, 2, HIGH}) {
            CHECK.due("19: outOn(5, " + what + ")", x.outOn(5, what), -1);
            CHECK.due("19: outOn(-1, " + what + ")", x.outOn(-1, what), -1);
        }
    }
}
