/** The boundary cases of promises 20 to 25, one method for each sentence that names one. */
public final class TollEdgeTest {
    private static final Check CHECK = new Check();
    private static final int LOW = Integer.MIN_VALUE;
    private static final int HIGH = Integer.MAX_VALUE;

    public static void main(String[] args) {
        tapeOf200();
        roomForTwenty();
        bytesInOrder();
        endsOfTheTape();
        cutBytesAreGone();
        emptyText();
        fullText();
        tapeIsEmptyThen();
        formerOnesStay();
        newOnesReplaceAll();
        noFaultAheadOfAny();
        faultOfTheLatest();
        whatOfAFault();
        endInEveryPlace();
        tokenInEveryPlace();
        bytesThatAreNoToken();
        lettersAndDigitsSideBySide();
        wordsMustBeWhole();
        kindsToldTwice();
        kindsInRange();
        tollsInRange();
        againsInRange();
        longNumbers();
        firstFaultCounts();
        placeAtTheLastByte();
        passesOfNoToll();
        kindsThatPass();
        thoseWhoPass();
        minutesOfPasses();
        notAheadOfTheLatest();
        refusedPassLeavesAll();
        againAtItsEdge();
        freeOnceOnEach();
        ofWhoAndKindAlone();
        tollOfZeroIsNotPaid();
        withoutAgain();
        aboutOthers();
        aboutSums();
        CHECK.done();
    }

    private static void dueFault(String text, int fault, int place) {
        BoatBridge x = new BoatBridge(1);
        CHECK.due("22: '" + text + "'", Texts.tell(x, text), -1);
        CHECK.due("23: fault of '" + text + "'", x.fault(0), fault);
        CHECK.due("23: place of '" + text + "'", x.fault(1), place);
    }

    private static BoatBridge dueSound(String text, int clauses) {
        BoatBridge x = new BoatBridge(1);
        CHECK.due("22: '" + text + "'", Texts.tell(x, text), clauses);
        CHECK.due("23: no fault of '" + text + "'", x.fault(0), 0);
        CHECK.due("23: no place of '" + text + "'", x.fault(1), -1);
        return x;
    }

    private static void duePass(BoatBridge x, int kind, int who, int minute, int want) {
        CHECK.due("24: pass(" + kind + ", " + who + ", " + minute + ")", x.pass(kind, who, minute), want);
    }

    /** "NONE, and none come, if there would be more than 200." */
    private static void tapeOf200() {
        BoatBridge x = new BoatBridge(1);
        CHECK.due("25: an empty tape", x.about(6), 0);
        for (int i = 1; i <= 10; i++) {
            CHECK.due("20: feed " + i, x.feed(0x20202020, 0x20202020, 0x20202020, 0x20202020, 0x20202020), 20 * i);
            CHECK.due("25: bytes", x.about(6), 20 * i);
        }
        for (int i = 0; i < 3; i++) {
            CHECK.due("20: 220 would be too many", x.feed(0, 0, 0, 0, 0), -1);
            CHECK.due("25: 200", x.about(6), 200);
        }
        CHECK.due("22: none of the refused bytes", x.tolls(), 0);
    }

    private static void roomForTwenty() {
        for (int size = 178; size <= 183; size++) {
            BoatBridge x = new BoatBridge(1);
            Texts.feed(x, " ".repeat(size));
            int due = size <= 180 ? size + 20 : -1;
            CHECK.due("20: behind " + size, x.feed(0x3b3b3b3b, 0, 0, 0, 0), due);
            CHECK.due("25: bytes behind " + size, x.about(6), size <= 180 ? size + 20 : size);
            CHECK.due("22: behind " + size, x.tolls(), size <= 180 ? -1 : 0);
            CHECK.due("23: the first new byte", x.fault(1), size <= 180 ? size : -1);
        }
    }

    /** "Twenty bytes come behind the tape, the highest of a first". */
    private static void bytesInOrder() {
        for (int place = 0; place < 20; place++) {
            int[] words = {0x20202020, 0x20202020, 0x20202020, 0x20202020, 0x20202020};
            for (int sign : new int[] {0x3b, 0x80, 0xff, 0x00, 0x7f}) {
                int shift = 24 - 8 * (place % 4);
                words[place / 4] = 0x20202020 & ~(0xff << shift) | sign << shift;
                BoatBridge x = new BoatBridge(1);
                x.feed(0x20202020, 0x20202020, 0x20202020, 0x20202020, 0x20202020);
                CHECK.due("20: " + sign + " at " + place, x.feed(words[0], words[1], words[2], words[3], words[4]), 40);
                CHECK.due("22: " + sign + " at " + place, x.tolls(), -1);
                CHECK.due("23: " + sign + " at " + place, x.fault(1), 20 + place);
            }
        }
    }

    /** "NONE, and nothing is done, if it has not so many, or n is below 0." */
    private static void endsOfTheTape() {
        BoatBridge x = new BoatBridge(1);
        int[][] none = {{LOW, -1}, {-1, -1}, {0, 0}, {1, -1}, {200, -1}, {HIGH, -1}};
        for (int[] d : none) {
            CHECK.due("21: end(" + d[0] + ") of none", x.end(d[0]), d[1]);
            CHECK.due("25: none", x.about(6), 0);
        }
        Texts.feed(x, " ".repeat(200));
        for (int n : new int[] {LOW, -1, 201, HIGH}) {
            CHECK.due("21: end(" + n + ") of 200", x.end(n), -1);
            CHECK.due("25: 200", x.about(6), 200);
        }
        int[][] due = {{200, 200}, {199, 199}, {200, -1}, {1, 1}, {2, -1}, {1, 1}, {0, 0}, {1, -1}, {0, 0}};
        int size = 200;
        for (int[] d : due) {
            CHECK.due("21: end(" + d[0] + ") of " + size, x.end(d[0]), d[1]);
            size = d[1] == -1 ? size : d[1];
            CHECK.due("25: bytes", x.about(6), size);
        }
    }

    /** "The tape has its first n bytes alone". */
    private static void cutBytesAreGone() {
        BoatBridge x = new BoatBridge(1);
        Texts.feed(x, "toll 1 5;????");
        CHECK.due("21: end(9)", x.end(9), 9);
        CHECK.due("22: the first nine", x.tolls(), 1);
        Texts.feed(x, "toll 2 77777");
        x.end(8);
        x.feed(0x3b202020, 0x20202020, 0x20202020, 0x20202020, 0x20202020);
        CHECK.due("22: new bytes behind the eighth", x.tolls(), 1);
        CHECK.due("25: a toll of 7", x.about(22), 7);
        Texts.feed(x, "toll 3 8;");
        CHECK.due("21: a refused end", x.end(10), -1);
        CHECK.due("21: a refused end", x.end(-1), -1);
        CHECK.due("22: the text as it was", x.tolls(), 1);
        CHECK.due("25: a toll of 8", x.about(23), 8);
    }

    /** "{CLAUSE}": there may be none. */
    private static void emptyText() {
        BoatBridge x = new BoatBridge(1);
        CHECK.due("22: an empty tape", x.tolls(), 0);
        CHECK.due("23: no fault", x.fault(0), 0);
        CHECK.due("23: no place", x.fault(1), -1);
        dueSound(" ", 0);
        dueSound(" ".repeat(200), 0);
    }

    /** "a text of up to 200 bytes", the last one of use too. */
    private static void fullText() {
        StringBuilder all = new StringBuilder();
        for (int kind = 0; kind < 6; kind++) {
            all.append("toll ").append(kind).append(" 999;again ").append(kind).append(" 999;");
        }
        String twelve = all.toString();
        String padded = twelve.substring(0, twelve.length() - 1) + " ".repeat(200 - twelve.length()) + ";";
        BoatBridge x = dueSound(padded, 12);
        for (int kind = 0; kind < 6; kind++) {
            CHECK.due("25: toll of " + kind, x.about(20 + kind), 999);
            CHECK.due("25: again of " + kind, x.about(30 + kind), 999);
        }
        dueFault(Texts.upTo(200, padded.substring(0, 199)), 1, 200);
        dueFault(padded.substring(0, 199), 1, 199);
        dueFault(padded.substring(0, 199) + "x", 1, 199);
    }

    /** "The tape (empty then)": with a fault and without. */
    private static void tapeIsEmptyThen() {
        BoatBridge x = new BoatBridge(1);
        for (String text : new String[] {"toll 1 5;", "toll 1", "?", "", " ".repeat(200)}) {
            Texts.tell(x, text);
            CHECK.due("22: empty behind '" + text + "'", x.about(6), 0);
            CHECK.due("21: no byte is left", x.end(1), -1);
            CHECK.due("20: from the first byte on", x.feed(0x20202020, 0x20202020, 0x20202020, 0x20202020, 0x20202020),
                20);
            x.end(0);
        }
    }

    /** "NONE: it has a FAULT, the former ones stay." */
    private static void formerOnesStay() {
        BoatBridge x = dueSound("toll 0 7; again 0 20; toll 5 9;", 3);
        for (String text : new String[] {"toll 0 8; toll", "again 0 1; again 0 2;", "toll 5 1; toll 6 1;", ";"}) {
            CHECK.due("22: '" + text + "'", Texts.tell(x, text), -1);
            CHECK.due("25: the toll stays", x.about(20), 7);
            CHECK.due("25: the again stays", x.about(30), 20);
            CHECK.due("25: the other toll stays", x.about(25), 9);
            CHECK.due("25: none comes", x.about(21), 0);
        }
        BoatBridge first = new BoatBridge(1);
        CHECK.due("22: none ahead of it", Texts.tell(first, "toll 0 8; ?"), -1);
        CHECK.due("25: none stays", first.about(20), 0);
    }

    private static void newOnesReplaceAll() {
        BoatBridge x = dueSound("toll 0 7; again 0 20; toll 5 9;", 3);
        CHECK.due("22: one", Texts.tell(x, "toll 1 4;"), 1);
        CHECK.due("25: the toll of 0 is gone", x.about(20), 0);
        CHECK.due("25: the again of 0 is gone", x.about(30), 0);
        CHECK.due("25: the toll of 5 is gone", x.about(25), 0);
        CHECK.due("22: a former kind isn't told twice", Texts.tell(x, "toll 1 6;"), 1);
        CHECK.due("25: the new one", x.about(21), 6);
        CHECK.due("22: none", x.tolls(), 0);
        CHECK.due("25: all are gone", x.about(21), 0);
    }

    /** "NONE ... ahead of any." */
    private static void noFaultAheadOfAny() {
        BoatBridge x = new BoatBridge(1);
        CHECK.due("23: fault(0) of a new object", x.fault(0), -1);
        CHECK.due("23: fault(1) of a new object", x.fault(1), -1);
        Texts.feed(x, "?");
        x.pass(0, 0, 0);
        CHECK.due("23: fault(0) with a tape", x.fault(0), -1);
        CHECK.due("23: fault(1) with a tape", x.fault(1), -1);
        x.tolls();
        CHECK.due("23: fault(0) behind it", x.fault(0), 1);
        CHECK.due("23: fault(1) behind it", x.fault(1), 0);
    }

    /** "Of the latest tolls()". */
    private static void faultOfTheLatest() {
        BoatBridge x = new BoatBridge(1);
        String[] texts = {"toll 6", "", "toll 0 1; toll 0", "toll 0 1;", ";", "again 0 0"};
        int[][] due = {{3, 5}, {0, -1}, {2, 15}, {0, -1}, {1, 0}, {3, 8}};
        for (int i = 0; i < texts.length; i++) {
            Texts.tell(x, texts[i]);
            CHECK.due("23: fault of '" + texts[i] + "'", x.fault(0), due[i][0]);
            CHECK.due("23: place of '" + texts[i] + "'", x.fault(1), due[i][1]);
            x.feed(0, 0, 0, 0, 0);
            x.end(0);
            CHECK.due("23: feeding and cutting leave it", x.fault(0), due[i][0]);
            CHECK.due("23: feeding and cutting leave its place", x.fault(1), due[i][1]);
        }
    }

    private static void whatOfAFault() {
        BoatBridge x = new BoatBridge(1);
        for (String text : new String[] {"  ;", "toll 1 1;"}) {
            Texts.tell(x, text);
            for (int what : new int[] {LOW, -1, 2, HIGH}) {
                CHECK.due("23: fault(" + what + ")", x.fault(what), -1);
            }
        }
    }

    /** "(of the end at the length)": blanks behind the last token count. */
    private static void endInEveryPlace() {
        String[] parts = {"toll", "again", "toll 1", "again 1", "toll 1 5", "again 1 5", "toll 1 5; toll",
            "toll 1 5;again 1 5"};
        for (String part : parts) {
            for (int blanks = 0; blanks < 3; blanks++) {
                dueFault(part + " ".repeat(blanks), 1, part.length() + blanks);
                dueFault(" ".repeat(blanks) + part, 1, part.length() + blanks);
            }
        }
        dueFault(Texts.upTo(200, "toll"), 1, 200);
        dueSound("toll 1 5;  ", 1);
    }

    /** "1 it can't stand there": each token in each place where another is due. */
    private static void tokenInEveryPlace() {
        for (String head : new String[] {"", "toll 0 1;", "again 0 1; "}) {
            for (String wrong : new String[] {"5", ";", "Toll", "x"}) {
                dueFault(head + wrong, 1, head.length());
            }
            for (String word : new String[] {"toll ", "again ", "toll 5 ", "again 5 "}) {
                for (String wrong : new String[] {"toll", "again", ";", "x"}) {
                    dueFault(head + word + wrong, 1, head.length() + word.length());
                }
            }
            for (String clause : new String[] {"toll 5 1 ", "again 5 1 "}) {
                for (String wrong : new String[] {"toll", "again", "7", "1000", "x"}) {
                    dueFault(head + clause + wrong, 1, head.length() + clause.length());
                }
            }
        }
    }

    /** "or is none": every byte but blanks, letters, digits and ;. */
    private static void bytesThatAreNoToken() {
        for (int b = 0; b < 256; b++) {
            boolean letter = b >= 'a' && b <= 'z' || b >= 'A' && b <= 'Z';
            boolean digit = b >= '0' && b <= '9';
            String sign = String.valueOf((char) b);
            if (b == ' ') {
                dueSound(sign, 0);
            } else {
                dueFault(sign, 1, 0);
            }
            if (b != ' ' && !digit) {
                dueFault("toll 1 5" + sign + "x", 1, b == ';' ? 9 : 8);
            }
            if (!letter && !digit && b != ' ') {
                dueFault("toll" + sign, 1, 4);
                dueFault("toll 1" + sign + "5;", 1, 6);
            }
            if (letter) {
                dueFault("toll" + sign, 1, 0);
            }
            if (digit) {
                dueFault("toll" + sign, b <= '5' ? 1 : 3, b <= '5' ? 5 : 4);
            }
        }
    }

    /** "letters one behind the other, digits one behind the other": a blank isn't needed between them. */
    private static void lettersAndDigitsSideBySide() {
        BoatBridge x = dueSound("toll1 5;again1 7;", 2);
        CHECK.due("25: toll", x.about(21), 5);
        CHECK.due("25: again", x.about(31), 7);
        dueFault("toll15;", 3, 4);
        dueFault("toll1 5again1 7;", 1, 7);
        dueFault("1toll", 1, 0);
        dueFault("toll 1 5 5;", 1, 9);
        dueFault("to ll 1 5;", 1, 0);
    }

    private static void wordsMustBeWhole() {
        String[] wrong = {"t", "tol", "tolls", "tolll", "TOLL", "Toll", "tolL", "a", "agai", "agains", "AGAIN", "Again",
            "agaiN", "tollagain", "againtoll", "tolltoll", "llot", "niaga"};
        for (String word : wrong) {
            dueFault(word + " 1 5;", 1, 0);
            dueFault("toll 0 1; " + word + " 1 5;", 1, 10);
        }
    }

    /** "2 toll, again of a KIND for the second time (at the KIND)". */
    private static void kindsToldTwice() {
        for (int kind = 0; kind < 6; kind++) {
            dueFault("toll " + kind + " 5;toll " + kind + " 6;", 2, 14);
            dueFault("again " + kind + " 5;again " + kind + " 6;", 2, 16);
            dueFault("toll " + kind + " 0;toll " + kind, 2, 14);
            dueSound("toll " + kind + " 5;again " + kind + " 6;", 2);
            dueSound("again " + kind + " 5;toll " + kind + " 6;", 2);
        }
        dueFault("toll 1 5;toll 0001 6;", 2, 14);
        dueFault("toll 1 5;again 1 5;toll 2 5;again 2 5;again 1 5;", 2, 44);
        dueFault("toll 1 5;toll 1 1000;", 2, 14);
        dueFault("toll 1 5;toll 1 ?", 2, 14);
    }

    /** "(a KIND 0 .. 5 ...)". */
    private static void kindsInRange() {
        for (String word : new String[] {"toll", "again"}) {
            dueSound(word + " 0 1;", 1);
            dueSound(word + " 5 1;", 1);
            dueFault(word + " 6 1;", 3, word.length() + 1);
            dueFault(word + " 10 1;", 3, word.length() + 1);
            dueFault(word + " 999 1;", 3, word.length() + 1);
            dueFault(word + " 1000 1;", 3, word.length() + 1);
            dueFault(word + " 6", 3, word.length() + 1);
        }
    }

    /** "toll NUMBER NUMBER ; (... 0 .. 999)". */
    private static void tollsInRange() {
        int[] tolls = {0, 1, 998, 999};
        for (int toll : tolls) {
            BoatBridge x = dueSound("toll 4 " + toll + ";", 1);
            CHECK.due("25: toll " + toll, x.about(24), toll);
            duePass(x, 4, 0, 0, toll);
        }
        dueFault("toll 4 1000;", 3, 7);
        dueFault("toll 4 1000", 3, 7);
        dueFault("toll 4   9999;", 3, 9);
    }

    /** "again NUMBER NUMBER ; (a KIND, 1 .. 999 minutes)". */
    private static void againsInRange() {
        for (int again : new int[] {1, 2, 998, 999}) {
            BoatBridge x = dueSound("again 4 " + again + ";", 1);
            CHECK.due("25: again " + again, x.about(34), again);
        }
        dueFault("again 4 0;", 3, 8);
        dueFault("again 4 000;", 3, 8);
        dueFault("again 4 1000;", 3, 8);
    }

    /** Numbers longer than an int or a long has room for don't wrap around. */
    private static void longNumbers() {
        String[] wraps = {"2147483648", "4294967296", "4294967297", "4294967301", "18446744073709551616",
            "18446744073709551617", "340282366920938463463374607431768211457"};
        for (String number : wraps) {
            dueFault("toll " + number + " 1;", 3, 5);
            dueFault("toll 1 " + number + ";", 3, 7);
            dueFault("again 1 " + number + ";", 3, 8);
        }
        String zeros = "0".repeat(180);
        CHECK.due("25: 180 zeros ahead of 7", dueSound("toll 1 " + zeros + "7;", 1).about(21), 7);
        CHECK.due("25: 180 zeros ahead of a kind", dueSound("toll " + zeros + "3 8;", 1).about(23), 8);
        dueFault("toll 1 " + "9".repeat(192) + ";", 3, 7);
        dueFault("toll 1 " + "9".repeat(193), 3, 7);
        dueFault("toll 1 " + "0".repeat(193), 1, 200);
    }

    /** "the first as TOKENS are come to". */
    private static void firstFaultCounts() {
        dueFault("toll 6 1000; ?", 3, 5);
        dueFault("? toll 6 1000;", 1, 0);
        dueFault("toll 1 1000 ; toll 1", 3, 7);
        dueFault("toll 1 1; toll 1 1000; ;", 2, 15);
        dueFault("toll 1 1; ; toll 1", 1, 10);
        dueFault("toll 1 1 toll 1 1;", 1, 9);
    }

    /** The last byte of a full tape is a place too. */
    private static void placeAtTheLastByte() {
        dueFault(" ".repeat(199) + ";", 1, 199);
        dueFault("toll" + " ".repeat(195) + "6", 3, 199);
        dueFault("toll 2 1;toll" + " ".repeat(186) + "2", 2, 199);
        dueFault("toll" + " ".repeat(195) + "5", 1, 200);
        dueFault(" ".repeat(196) + "toll", 1, 200);
        dueFault(" ".repeat(196) + "Toll", 1, 196);
    }

    /** "(0 without one)". */
    private static void passesOfNoToll() {
        BoatBridge x = new BoatBridge(1);
        for (int kind = 0; kind < 6; kind++) {
            duePass(x, kind, 0, 0, 0);
        }
        CHECK.due("25: paid", x.about(4), 0);
        CHECK.due("25: free by again", x.about(5), 0);
        BoatBridge again = dueSound("again 1 999;", 1);
        duePass(again, 1, 0, 0, 0);
        duePass(again, 1, 0, 1, 0);
        CHECK.due("25: none was paid that one could go free on", again.about(5), 0);
    }

    /** "of a KIND": 0 .. 5. */
    private static void kindsThatPass() {
        BoatBridge x = dueSound("toll 0 1; toll 5 2;", 2);
        for (int kind : new int[] {LOW, -1, 6, HIGH}) {
            duePass(x, kind, 0, 0, -1);
        }
        duePass(x, 0, 0, 0, 1);
        duePass(x, 5, 0, 0, 2);
    }

    /** "by WHO (0 .. 19)". */
    private static void thoseWhoPass() {
        BoatBridge x = dueSound("toll 0 1; again 0 9; toll 5 3; again 5 9;", 4);
        for (int who : new int[] {LOW, -1, 20, HIGH}) {
            duePass(x, 0, who, 0, -1);
            duePass(x, 5, who, 0, -1);
        }
        for (int who = 0; who < 20; who++) {
            duePass(x, 0, who, 0, 1);
            duePass(x, 5, who, 0, 3);
        }
        for (int who = 0; who < 20; who++) {
            duePass(x, 0, who, 0, 0);
            duePass(x, 5, who, 0, 0);
        }
        CHECK.due("25: paid", x.about(4), 80);
        CHECK.due("25: free", x.about(5), 40);
    }

    /** "at a minute (0 .. 9999 ...)". */
    private static void minutesOfPasses() {
        BoatBridge x = dueSound("toll 0 1;", 1);
        for (int minute : new int[] {LOW, -1, 10000, HIGH}) {
            duePass(x, 0, 0, minute, -1);
        }
        duePass(x, 0, 0, 0, 1);
        duePass(x, 0, 0, 9999, 1);
        duePass(x, 0, 0, 10000, -1);
        duePass(x, 0, 0, 9998, -1);
        duePass(x, 0, 0, 9999, 1);
    }

    /** "not ahead of the latest one": of any WHO and KIND, one that paid or not. */
    private static void notAheadOfTheLatest() {
        BoatBridge x = dueSound("toll 0 1; again 0 50;", 2);
        duePass(x, 0, 0, 100, 1);
        duePass(x, 0, 0, 99, -1);
        duePass(x, 3, 7, 99, -1);
        duePass(x, 3, 7, 100, 0);
        duePass(x, 3, 7, 101, 0);
        duePass(x, 0, 0, 100, -1);
        duePass(x, 0, 0, 101, 0);
        duePass(x, 0, 1, 100, -1);
        duePass(x, 0, 0, 102, 1);
        duePass(x, 1, 1, 101, -1);
    }

    /** A refused pass pays nothing, uses no free return up, and isn't the latest. */
    private static void refusedPassLeavesAll() {
        BoatBridge x = dueSound("toll 0 7; again 0 50;", 2);
        duePass(x, 0, 0, 100, 7);
        int[][] wrong = {{0, 0, 99}, {0, 0, 10000}, {6, 0, 5000}, {-1, 0, 5000}, {0, 20, 5000}, {0, -1, 5000}};
        for (int[] w : wrong) {
            duePass(x, w[0], w[1], w[2], -1);
            CHECK.due("25: paid", x.about(4), 7);
            CHECK.due("25: free", x.about(5), 0);
        }
        duePass(x, 1, 1, 100, 0);
        duePass(x, 0, 0, 150, 0);
    }

    /** "was at most again minutes ahead". */
    private static void againAtItsEdge() {
        for (int again : new int[] {1, 2, 30, 998, 999}) {
            for (int later = Math.max(0, again - 1); later <= again + 1; later++) {
                BoatBridge x = dueSound("toll 2 8; again 2 " + again + ";", 2);
                duePass(x, 2, 3, 10, 8);
                duePass(x, 2, 3, 10 + later, later <= again ? 0 : 8);
                CHECK.due("25: free", x.about(5), later <= again ? 1 : 0);
            }
        }
        BoatBridge same = dueSound("toll 2 8; again 2 1;", 2);
        duePass(same, 2, 3, 0, 8);
        duePass(same, 2, 3, 0, 0);
        BoatBridge last = dueSound("toll 2 8; again 2 999;", 2);
        duePass(last, 2, 3, 9000, 8);
        duePass(last, 2, 3, 9999, 0);
    }

    /** "and it has not gone free on that one". */
    private static void freeOnceOnEach() {
        BoatBridge x = dueSound("toll 2 8; again 2 100;", 2);
        duePass(x, 2, 3, 0, 8);
        duePass(x, 2, 3, 1, 0);
        duePass(x, 2, 3, 2, 8);
        duePass(x, 2, 3, 102, 0);
        duePass(x, 2, 3, 102, 8);
        // Paid again as the return had lapsed: the latest one that was paid is this.
        duePass(x, 2, 3, 203, 8);
        duePass(x, 2, 3, 303, 0);
        duePass(x, 2, 3, 303, 8);
        CHECK.due("25: paid", x.about(4), 40);
        CHECK.due("25: free", x.about(5), 3);
    }

    /** "the latest PASS of WHO as that KIND". */
    private static void ofWhoAndKindAlone() {
        BoatBridge x = dueSound("toll 0 1; toll 1 2; again 0 50; again 1 50;", 4);
        duePass(x, 0, 0, 0, 1);
        duePass(x, 1, 0, 0, 2);
        duePass(x, 0, 1, 0, 1);
        duePass(x, 1, 1, 0, 2);
        duePass(x, 0, 0, 1, 0);
        duePass(x, 0, 0, 1, 1);
        duePass(x, 1, 1, 1, 0);
        duePass(x, 1, 0, 1, 0);
        duePass(x, 0, 1, 1, 0);
        CHECK.due("25: free", x.about(5), 4);
    }

    /** "that was paid (by a toll above 0)". */
    private static void tollOfZeroIsNotPaid() {
        BoatBridge x = dueSound("toll 0 0; again 0 50;", 2);
        duePass(x, 0, 0, 0, 0);
        duePass(x, 0, 0, 1, 0);
        CHECK.due("25: none went free by again", x.about(5), 0);
        CHECK.due("22: a toll of 1", Texts.tell(x, "toll 0 1; again 0 50;"), 2);
        duePass(x, 0, 0, 2, 1);
        duePass(x, 0, 0, 3, 0);
        CHECK.due("25: one went free by again", x.about(5), 1);
    }

    /** Without again nothing is free, at the same minute neither. */
    private static void withoutAgain() {
        BoatBridge x = dueSound("toll 0 4; again 1 999;", 2);
        for (int i = 0; i < 3; i++) {
            duePass(x, 0, 0, 0, 4);
        }
        duePass(x, 0, 0, 1, 4);
        CHECK.due("25: paid", x.about(4), 16);
        CHECK.due("25: free", x.about(5), 0);
    }

    /** "20 + kind: its toll, 30 + kind: again (0 without). NONE for others." */
    private static void aboutOthers() {
        BoatBridge x = new BoatBridge(12);
        BoatBridge told = dueSound("toll 0 1; toll 5 2; again 0 3; again 5 4;", 4);
        for (int what : new int[] {LOW, -20, -1, 7, 8, 10, 19, 26, 27, 29, 36, 37, 40, 100, HIGH}) {
            CHECK.due("25: about(" + what + ")", x.about(what), -1);
            CHECK.due("25: about(" + what + ") with tolls", told.about(what), -1);
        }
        int[][] due = {{20, 1}, {21, 0}, {24, 0}, {25, 2}, {30, 3}, {31, 0}, {34, 0}, {35, 4}};
        for (int[] d : due) {
            CHECK.due("25: about(" + d[0] + ") of a new object", x.about(d[0]), 0);
            CHECK.due("25: about(" + d[0] + ") with tolls", told.about(d[0]), d[1]);
        }
        int[] first = {12, 0, 0, 0, 0, 0, 0};
        for (int what = 0; what < first.length; what++) {
            CHECK.due("25: about(" + what + ") of a new object", x.about(what), first[what]);
        }
    }

    /** As much as a run can pay: some 500 passes of 999. */
    private static void aboutSums() {
        BoatBridge x = dueSound("toll 5 999;", 1);
        for (int i = 1; i <= 480; i++) {
            duePass(x, 5, i % 20, i, 999);
        }
        CHECK.due("25: paid together", x.about(4), 480 * 999);
        CHECK.due("22: new tolls leave the sum", x.tolls(), 0);
        CHECK.due("25: paid together as before", x.about(4), 480 * 999);
    }
}
