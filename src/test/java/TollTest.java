/** Promises 20 to 25: the tape, the tolls and their faults, passes, about. */
public final class TollTest {
    private static final Check CHECK = new Check();
    private static final int LOW = Integer.MIN_VALUE;
    private static final int HIGH = Integer.MAX_VALUE;

    public static void main(String[] args) {
        feeds();
        ends();
        clauses();
        faults();
        formerStay();
        passes();
        passesUnderNewTolls();
        wrongPasses();
        abouts();
        CHECK.done();
    }

    private static int tell(BoatBridge x, String text) {
        Texts.feed(x, text);
        CHECK.due("25: bytes of '" + text + "'", x.about(6), text.length());
        return x.tolls();
    }

    private static void feeds() {
        BoatBridge x = new BoatBridge(1);
        for (int i = 1; i <= 10; i++) {
            CHECK.due("20: feed " + i, x.feed(LOW, HIGH, -1, 0, i), 20 * i);
        }
        CHECK.due("20: more than 200", x.feed(0, 0, 0, 0, 0), -1);
        CHECK.due("25: about(6)", x.about(6), 200);
        CHECK.due("21: end(181)", x.end(181), 181);
        CHECK.due("20: 201 would be too many", x.feed(0, 0, 0, 0, 0), -1);
        CHECK.due("20: none came", x.about(6), 181);
        CHECK.due("21: end(180)", x.end(180), 180);
        CHECK.due("20: 200 are fine", x.feed(0, 0, 0, 0, 0), 200);
        BoatBridge order = new BoatBridge(1);
        order.feed(0x746f6c6c, 0x31323334, 0x3b202020, 0x20202020, 0x2020203b);
        CHECK.due("20: the highest byte of a first", order.tolls(), -1);
        CHECK.due("20: 1234 is no kind", order.fault(0), 3);
        CHECK.due("20: the number is at 4", order.fault(1), 4);
    }

    private static void ends() {
        BoatBridge x = new BoatBridge(1);
        CHECK.due("21: end(0) of none", x.end(0), 0);
        CHECK.due("21: end(1) of none", x.end(1), -1);
        x.feed(0, 0, 0, 0, 0);
        CHECK.due("21: end(-1)", x.end(-1), -1);
        CHECK.due("21: end(low)", x.end(LOW), -1);
        CHECK.due("21: end(21)", x.end(21), -1);
        CHECK.due("21: end(high)", x.end(HIGH), -1);
        CHECK.due("21: nothing was done", x.about(6), 20);
        CHECK.due("21: end(20)", x.end(20), 20);
        CHECK.due("21: end(7)", x.end(7), 7);
        CHECK.due("21: seven are left", x.about(6), 7);
        CHECK.due("21: end(8)", x.end(8), -1);
        CHECK.due("20: behind the seven", x.feed(0, 0, 0, 0, 0), 27);
        CHECK.due("21: end(0)", x.end(0), 0);
        CHECK.due("21: an empty text is fine", x.tolls(), 0);
    }

    private static void clauses() {
        BoatBridge x = new BoatBridge(1);
        CHECK.due("22: two clauses", tell(x, "toll 0 999; again 0 999;"), 2);
        CHECK.due("22: the tape is empty then", x.about(6), 0);
        CHECK.due("23: without a fault", x.fault(0), 0);
        CHECK.due("23: without a place", x.fault(1), -1);
        CHECK.due("25: about(20)", x.about(20), 999);
        CHECK.due("25: about(30)", x.about(30), 999);
        CHECK.due("22: blanks aside", tell(x, "  toll5 0;again 5   1  ;   "), 2);
        CHECK.due("22: the former are gone", x.about(20), 0);
        CHECK.due("22: the former again too", x.about(30), 0);
        CHECK.due("25: about(35)", x.about(35), 1);
        CHECK.due("22: leading zeros", tell(x, "toll 0003 00000000000000000000042;"), 1);
        CHECK.due("25: about(23)", x.about(23), 42);
        CHECK.due("22: all twelve",
            tell(x, "toll 0 1;toll 1 2;toll 2 3;toll 3 4;toll 4 5;toll 5 6;"
                + "again 5 1;again 4 2;again 3 3;again 2 4;again 1 5;again 0 6;"), 12);
        for (int kind = 0; kind < 6; kind++) {
            CHECK.due("25: about(20 + " + kind + ")", x.about(20 + kind), kind + 1);
            CHECK.due("25: about(30 + " + kind + ")", x.about(30 + kind), 6 - kind);
        }
        CHECK.due("22: none", tell(x, "   "), 0);
        CHECK.due("22: all are gone", x.about(25), 0);
    }

    private static void dueFault(String text, int fault, int place) {
        BoatBridge x = new BoatBridge(1);
        CHECK.due("23: fault(0) ahead of any", x.fault(0), -1);
        CHECK.due("23: fault(1) ahead of any", x.fault(1), -1);
        CHECK.due("22: '" + text + "'", tell(x, text), -1);
        CHECK.due("23: fault of '" + text + "'", x.fault(0), fault);
        CHECK.due("23: place of '" + text + "'", x.fault(1), place);
        CHECK.due("22: empty behind '" + text + "'", x.about(6), 0);
        for (int what : new int[] {-1, 2, LOW, HIGH}) {
            CHECK.due("23: fault(" + what + ")", x.fault(what), -1);
        }
    }

    private static void faults() {
        dueFault("toll", 1, 4);
        dueFault("toll  ", 1, 6);
        dueFault("toll 1", 1, 6);
        dueFault("toll 1 5", 1, 8);
        dueFault("toll 1 5 ", 1, 9);
        dueFault(";", 1, 0);
        dueFault(" 7", 1, 1);
        dueFault("tolls 1 5;", 1, 0);
        dueFault("tol 1 5;", 1, 0);
        dueFault("Toll 1 5;", 1, 0);
        dueFault("agaiN 1 5;", 1, 0);
        dueFault("tollagain 1 5;", 1, 0);
        dueFault("toll toll 1 5;", 1, 5);
        dueFault("toll 1 again;", 1, 7);
        dueFault("toll 1;", 1, 6);
        dueFault("toll;", 1, 4);
        dueFault("toll 1 5 1000;", 1, 9);
        dueFault("toll 1 5;;", 1, 9);
        dueFault("toll 1 5; x", 1, 10);
        dueFault("toll 1 5, again", 1, 8);
        dueFault("toll -1 5;", 1, 5);
        dueFault("\t", 1, 0);
        dueFault("toll 1 5;\n", 1, 9);
        dueFault("\u0000", 1, 0);
        dueFault("toll \u00e9", 1, 5);
        dueFault("toll\u00ff", 1, 4);
        dueFault("@", 1, 0);
        dueFault("[", 1, 0);
        dueFault("`", 1, 0);
        dueFault("{", 1, 0);
        dueFault("toll /", 1, 5);
        dueFault("toll :", 1, 5);
        dueFault("toll 1 5; toll 1 6;", 2, 15);
        dueFault("toll 1 0; toll 01 6;", 2, 15);
        dueFault("toll 1 5; toll 1", 2, 15);
        dueFault("again 2 5; toll 2 5; again 2 1000;", 2, 27);
        dueFault("toll 6 5;", 3, 5);
        dueFault("toll 6 1000;", 3, 5);
        dueFault("again 6 5;", 3, 6);
        dueFault("toll 5 1000;", 3, 7);
        dueFault("again 5 1000;", 3, 8);
        dueFault("again 5 0;", 3, 8);
        dueFault("again 5 000", 3, 8);
        dueFault("toll 4294967296 1;", 3, 5);
        dueFault("toll 1 4294967296;", 3, 7);
        dueFault("toll 1 18446744073709551616;", 3, 7);
        dueFault("toll 6 ?", 3, 5);
        dueFault("? toll 6", 1, 0);
    }

    private static void formerStay() {
        BoatBridge x = new BoatBridge(1);
        tell(x, "toll 1 5; again 1 10;");
        CHECK.due("22: a fault at the end", tell(x, "toll 1 7; toll 2 3; again 1"), -1);
        CHECK.due("22: the former toll stays", x.about(21), 5);
        CHECK.due("22: the former again stays", x.about(31), 10);
        CHECK.due("22: none of the new", x.about(22), 0);
        CHECK.due("22: and a pass pays by it", x.pass(1, 0, 0), 5);
        CHECK.due("23: feeding changes no fault", x.feed(0, 0, 0, 0, 0), 20);
        CHECK.due("23: of the latest", x.fault(0), 1);
        CHECK.due("23: of the latest, its place", x.fault(1), 27);
        x.end(0);
        CHECK.due("22: none", x.tolls(), 0);
        CHECK.due("23: of the latest now", x.fault(0), 0);
        CHECK.due("23: of the latest now, its place", x.fault(1), -1);
    }

    private static void duePass(BoatBridge x, int kind, int who, int minute, int want) {
        CHECK.due("24: pass(" + kind + ", " + who + ", " + minute + ")", x.pass(kind, who, minute), want);
    }

    private static void passes() {
        BoatBridge x = new BoatBridge(1);
        duePass(x, 0, 0, 0, 0);
        CHECK.due("24: without a toll none is free by again", x.about(5), 0);
        tell(x, "toll 0 7; again 0 10; toll 1 3; again 2 5; toll 5 999;");
        duePass(x, 0, 0, 0, 7);
        duePass(x, 0, 0, 0, 0);
        duePass(x, 0, 0, 0, 7);
        duePass(x, 0, 19, 5, 7);
        duePass(x, 0, 0, 10, 0);
        duePass(x, 0, 0, 10, 7);
        duePass(x, 0, 19, 15, 0);
        duePass(x, 0, 19, 15, 7);
        duePass(x, 0, 0, 21, 7);
        duePass(x, 1, 0, 21, 3);
        duePass(x, 1, 0, 21, 3);
        duePass(x, 2, 0, 21, 0);
        duePass(x, 2, 0, 22, 0);
        duePass(x, 0, 0, 22, 0);
        duePass(x, 5, 3, 9999, 999);
        duePass(x, 5, 3, 9999, 999);
        CHECK.due("25: paid together", x.about(4), 7 * 6 + 6 + 999 * 2);
        CHECK.due("25: went free", x.about(5), 4);
    }

    private static void passesUnderNewTolls() {
        BoatBridge x = new BoatBridge(1);
        tell(x, "toll 0 7;");
        duePass(x, 0, 0, 0, 7);
        tell(x, "toll 0 8; again 0 10;");
        duePass(x, 0, 0, 5, 0);
        duePass(x, 0, 0, 6, 8);
        tell(x, "toll 0 9; again 0 3;");
        duePass(x, 0, 0, 10, 9);
        tell(x, "again 0 20;");
        duePass(x, 0, 0, 20, 0);
        CHECK.due("24: free by again, though there is no toll now", x.about(5), 2);
        duePass(x, 0, 0, 21, 0);
        CHECK.due("24: one that pays a toll of 0 isn't free by again", x.about(5), 2);
        tell(x, "toll 0 4; again 0 999;");
        duePass(x, 0, 0, 22, 4);
        duePass(x, 0, 0, 1021, 0);
        duePass(x, 0, 0, 1022, 4);
        duePass(x, 0, 0, 2022, 4);
        tell(x, "toll 0 1; again 0 1;");
        duePass(x, 0, 7, 3000, 1);
        duePass(x, 0, 7, 3001, 0);
        duePass(x, 0, 7, 3001, 1);
        duePass(x, 0, 7, 3003, 1);
    }

    private static void wrongPasses() {
        BoatBridge x = new BoatBridge(1);
        tell(x, "toll 0 7; again 0 999;");
        duePass(x, 0, 0, -1, -1);
        duePass(x, 0, 0, 10000, -1);
        duePass(x, -1, 0, 0, -1);
        duePass(x, 6, 0, 0, -1);
        duePass(x, 0, -1, 0, -1);
        duePass(x, 0, 20, 0, -1);
        duePass(x, LOW, LOW, LOW, -1);
        duePass(x, HIGH, HIGH, HIGH, -1);
        duePass(x, 6, 0, 900, -1);
        CHECK.due("24: nothing was paid", x.about(4), 0);
        duePass(x, 0, 0, 500, 7);
        duePass(x, 1, 4, 499, -1);
        duePass(x, 0, 0, 499, -1);
        duePass(x, 1, 4, 600, 0);
        duePass(x, 0, 0, 599, -1);
        duePass(x, 0, 0, 600, 0);
        CHECK.due("24: one was free", x.about(5), 1);
    }

    private static void abouts() {
        BoatBridge x = new BoatBridge(7);
        int[] first = {7, 0, 0, 0, 0, 0, 0};
        for (int what = 0; what < first.length; what++) {
            CHECK.due("25: about(" + what + ") at first", x.about(what), first[what]);
        }
        for (int kind = 0; kind < 6; kind++) {
            CHECK.due("25: no toll at first", x.about(20 + kind), 0);
            CHECK.due("25: no again at first", x.about(30 + kind), 0);
        }
        for (int what : new int[] {-1, 7, 8, 19, 26, 29, 36, LOW, HIGH}) {
            CHECK.due("25: about(" + what + ")", x.about(what), -1);
        }
        x.cart(1, 1);
        x.cart(1, 1);
        x.ship(1);
        x.ship(1);
        x.ship(1);
        x.crosser(1);
        x.feed(1, 2, 3, 4, 5);
        int[] then = {7, 2, 3, 1, 0, 0, 20};
        for (int what = 0; what < then.length; what++) {
            CHECK.due("25: about(" + what + ") then", x.about(what), then[what]);
        }
    }
}
