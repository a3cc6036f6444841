import java.util.Arrays;

/** A bridge of boats: its hulls and train, its openings for ships, its days out, its tolls. */
public final class BoatBridge {
    public static final int NONE = -1;

    private static final int MOST_HULLS = 12;
    private static final int MOST_CARTS = 6;
    private static final int MOST_GAP = 12;
    private static final int MOST_LEVELS = 10;
    private static final int MOST_STEP = 100;
    private static final int NO_MARGIN = -100000;

    private static final int MOST_SHIPS = 10;
    private static final int MOST_CROSSERS = 30;
    private static final int LAST_COMING = 239;
    private static final int MINUTES = 300;
    private static final int NO_WAY = 1000000000;

    private static final int DAYS = 60;
    private static final int MOST_LAYS = 9;

    private static final int TAPE_BYTES = 200;
    private static final int FEED_BYTES = 20;
    private static final int KINDS = 6;
    private static final int WALKERS = 20;
    private static final int LAST_PASS = 9999;

    private final Deck deck;
    private final River river;
    private final Season season;
    private final Tape tape;
    private final TollReader reader;
    private final Till till;

    public BoatBridge(int n) {
        deck = new Deck(Math.max(1, Math.min(MOST_HULLS, n)));
        river = new River();
        season = new Season();
        tape = new Tape();
        reader = new TollReader();
        till = new Till();
    }

    public boolean hull(int k, int bears, int anchor) {
        if (!deck.hasHull(k) || !within(bears, 1, 1000) || !within(anchor, 0, 1000)) {
            return false;
        }
        deck.setHull(k, bears, anchor);
        return true;
    }

    public boolean pull(int level, int v) {
        if (!within(level, 0, MOST_LEVELS - 1) || !within(v, 0, 1000)) {
            return false;
        }
        deck.setPull(level, v);
        return true;
    }

    public int drags(int level) {
        return within(level, 0, MOST_LEVELS - 1) ? deck.anchorsBelow(level) : NONE;
    }

    public int cart(int weight, int gap) {
        if (!within(weight, 1, 400) || deck.cartCount() >= MOST_CARTS) {
            return NONE;
        }
        if (deck.cartCount() > 0 && !within(gap, 1, MOST_GAP)) {
            return NONE;
        }
        return deck.addCart(weight, gap);
    }

    public int clear() {
        return deck.dropCarts();
    }

    public int pressed(int k, int step) {
        return deck.hasHull(k) && within(step, 0, MOST_STEP) ? deck.loadOn(k, step) : NONE;
    }

    public int worst(int what) {
        return deck.cartCount() > 0 && within(what, 0, 2) ? deck.leastMargin(what) : NO_MARGIN;
    }

    public int gap() {
        return deck.cartCount() > 0 ? deck.leastEvenGap() : NONE;
    }

    public int ship(int minute) {
        if (!within(minute, 0, LAST_COMING) || river.shipCount() >= MOST_SHIPS) {
            return NONE;
        }
        return river.addShip(minute);
    }

    public int crosser(int minute) {
        if (!within(minute, 0, LAST_COMING) || river.crosserCount() >= MOST_CROSSERS) {
            return NONE;
        }
        return river.addCrosser(minute);
    }

    public boolean times(int open, int each, int shut, int rank) {
        if (!within(open, 1, 20) || !within(each, 1, 20) || !within(shut, 1, 20)
                || !within(rank, 1, 9)) {
            return false;
        }
        river.setTimes(open, each, shut, rank);
        return true;
    }

    public int waits() {
        return river.leastWaits();
    }

    public int opening(int i, int what) {
        return river.openingOfBest(i, what);
    }

    public int atOnce() {
        return river.earliestWaits();
    }

    public boolean level(int day, int low, int high) {
        if (!within(day, 0, DAYS - 1)) {
            return false;
        }
        if (low == NONE) {
            // What is taken back has no HIGH, so none is asked for.
            season.foretell(day, NONE);
            return true;
        }
        if (!within(low, 0, 99) || !within(high, low, 99)) {
            return false;
        }
        season.foretell(day, high);
        return true;
    }

    public boolean flood(int most, int lays) {
        if (!within(most, 0, 99) || !within(lays, 1, MOST_LAYS)) {
            return false;
        }
        season.setLimits(most, lays);
        return true;
    }

    public int out() {
        return season.fewest();
    }

    public int outOn(int day, int what) {
        if (!within(day, 0, DAYS - 1) || !within(what, 0, 1)) {
            return NONE;
        }
        boolean holds = what == 0 ? season.isOut(day) : season.isBad(day);
        return holds ? 1 : 0;
    }

    public int feed(int a, int b, int c, int d, int e) {
        if (tape.size() + FEED_BYTES > TAPE_BYTES) {
            return NONE;
        }
        tape.addWord(a);
        tape.addWord(b);
        tape.addWord(c);
        tape.addWord(d);
        tape.addWord(e);
        return tape.size();
    }

    public int end(int n) {
        if (!within(n, 0, tape.size())) {
            return NONE;
        }
        tape.cutTo(n);
        return n;
    }

    public int tolls() {
        boolean sound = reader.read(tape);
        tape.cutTo(0);
        if (!sound) {
            return NONE;
        }
        till.adopt(reader);
        return reader.clauseCount();
    }

    public int fault(int what) {
        if (what == 0) {
            return reader.faultNumber();
        }
        return what == 1 ? reader.faultAt() : NONE;
    }

    public int pass(int kind, int who, int minute) {
        if (!within(kind, 0, KINDS - 1) || !within(who, 0, WALKERS - 1)
                || !within(minute, till.latestMinute(), LAST_PASS)) {
            return NONE;
        }
        return till.charge(kind, who, minute);
    }

    public int about(int what) {
        if (within(what, 20, 20 + KINDS - 1)) {
            return till.tollOf(what - 20);
        }
        if (within(what, 30, 30 + KINDS - 1)) {
            return till.againOf(what - 30);
        }
        switch (what) {
            case 0: return deck.hullCount();
            case 1: return deck.cartCount();
            case 2: return river.shipCount();
            case 3: return river.crosserCount();
            case 4: return till.paidTogether();
            case 5: return till.wentFree();
            case 6: return tape.size();
            default: return NONE;
        }
    }

    private static boolean within(int value, int low, int high) {
        return value >= low && value <= high;
    }

    /** I: hulls, anchors, pulls and the train that goes over them. */
    private static final class Deck {
        private final int hulls;
        private final int[] bears;
        private final int[] anchors;
        private final int[] loads;
        private final int[] pulls = new int[MOST_LEVELS];
        private final int[] weights = new int[MOST_CARTS];
        private final int[] behindFirst = new int[MOST_CARTS];
        private final int[] evenBehind = new int[MOST_CARTS];
        private int carts;
        private int foundMargin;
        private int foundHull;
        private int foundStep;

        Deck(int count) {
            hulls = count;
            bears = new int[count];
            anchors = new int[count];
            loads = new int[count];
            Arrays.fill(bears, 100);
            Arrays.fill(anchors, 100);
        }

        int hullCount() {
            return hulls;
        }

        int cartCount() {
            return carts;
        }

        boolean hasHull(int k) {
            return within(k, 0, hulls - 1);
        }

        void setHull(int k, int bearing, int anchor) {
            bears[k] = bearing;
            anchors[k] = anchor;
        }

        void setPull(int height, int v) {
            pulls[height] = v;
        }

        int anchorsBelow(int height) {
            int count = 0;
            for (int k = 0; k < hulls; k++) {
                if (anchors[k] < pulls[height]) {
                    count++;
                }
            }
            return count;
        }

        int addCart(int weight, int distance) {
            weights[carts] = weight;
            behindFirst[carts] = carts == 0 ? 0 : behindFirst[carts - 1] + distance;
            carts++;
            return carts;
        }

        int dropCarts() {
            int had = carts;
            carts = 0;
            return had;
        }

        int loadOn(int k, int step) {
            layLoads(step, behindFirst);
            return loads[k];
        }

        int leastMargin(int what) {
            findLeastMargin(behindFirst);
            if (what == 0) {
                return foundMargin;
            }
            return what == 1 ? foundHull : foundStep;
        }

        int leastEvenGap() {
            for (int g = 1; g <= MOST_GAP; g++) {
                for (int i = 0; i < carts; i++) {
                    evenBehind[i] = i * g;
                }
                findLeastMargin(evenBehind);
                if (foundMargin >= 0) {
                    return g;
                }
            }
            return NONE;
        }

        private void findLeastMargin(int[] behind) {
            foundMargin = Integer.MAX_VALUE;
            foundHull = NONE;
            foundStep = NONE;
            int lastStep = carts > 0 ? hulls - 1 + behind[carts - 1] : NONE;
            for (int step = 0; step <= lastStep; step++) {
                layLoads(step, behind);
                for (int k = 0; k < hulls; k++) {
                    int margin = 4 * bears[k] - loads[k];
                    if (margin < foundMargin) {
                        foundMargin = margin;
                        foundHull = k;
                        foundStep = step;
                    }
                }
            }
        }

        private void layLoads(int step, int[] behind) {
            Arrays.fill(loads, 0);
            for (int i = 0; i < carts; i++) {
                int at = step - behind[i];
                if (hasHull(at)) {
                    press(at, 2 * weights[i]);
                    press(at - 1, weights[i]);
                    press(at + 1, weights[i]);
                }
            }
        }

        private void press(int k, int load) {
            if (hasHull(k)) {
                loads[k] += load;
            }
        }
    }

    /** II: ships, crossers and the openings with the least waits. */
    private static final class River {
        private static final int ROW = MINUTES + 1;

        private final int[] comings = new int[MOST_SHIPS];
        private final int[] comingSums = new int[MOST_SHIPS + 1];
        private final int[] shipsBy = new int[MINUTES];
        private final int[] crossersAhead = new int[LAST_COMING + 2];
        private final int[] crosserSums = new int[LAST_COMING + 2];
        /** Row j, column e: the least waits of ships j and later, if the bridge is free from e. */
        private final int[] least = new int[MOST_SHIPS * ROW];
        /** The minute of the first opening on the way to these least waits. */
        private final int[] chosen = new int[MOST_SHIPS * ROW];
        private final int[] openMinutes = new int[MOST_SHIPS];
        private final int[] openShips = new int[MOST_SHIPS];
        private final int[] openEnds = new int[MOST_SHIPS];
        private int ships;
        private int crossers;
        private int opens = 3;
        private int takes = 2;
        private int shuts = 3;
        private int shipRank = 2;
        private int openings;
        private int total;
        private boolean planned;

        int shipCount() {
            return ships;
        }

        int crosserCount() {
            return crossers;
        }

        int addShip(int minute) {
            int place = ships;
            for (int i = ships; i > 0 && comings[i - 1] > minute; i--) {
                comings[i] = comings[i - 1];
                place = i - 1;
            }
            comings[place] = minute;
            ships++;
            for (int i = 0; i < ships; i++) {
                comingSums[i + 1] = comingSums[i] + comings[i];
            }
            for (int t = minute; t < MINUTES; t++) {
                shipsBy[t]++;
            }
            planned = false;
            return ships - 1;
        }

        int addCrosser(int minute) {
            for (int t = minute + 1; t < crossersAhead.length; t++) {
                crossersAhead[t]++;
                crosserSums[t] += minute;
            }
            crossers++;
            planned = false;
            return crossers;
        }

        void setTimes(int open, int each, int shut, int rank) {
            opens = open;
            takes = each;
            shuts = shut;
            shipRank = rank;
            planned = false;
        }

        int leastWaits() {
            plan();
            return total < NO_WAY ? total : NONE;
        }

        int openingOfBest(int i, int what) {
            plan();
            if (!within(i, 0, openings - 1)) {
                return NONE;
            }
            switch (what) {
                case 0: return openMinutes[i];
                case 1: return openShips[i];
                case 2: return openEnds[i];
                default: return NONE;
            }
        }

        int earliestWaits() {
            int passed = 0;
            int free = 0;
            int sum = 0;
            for (int i = 0; i < MOST_SHIPS && passed < ships; i++) {
                int t = Math.max(free, comings[passed]);
                if (t >= MINUTES) {
                    return NONE;
                }
                sum += waitsOfOpening(passed, t);
                free = endOfOpening(passed, t);
                passed = shipsBy[t];
            }
            return sum;
        }

        private void plan() {
            if (planned) {
                return;
            }
            planned = true;
            for (int j = ships - 1; j >= 0; j--) {
                int best = NO_WAY;
                int minute = NONE;
                for (int t = MINUTES; t >= 0; t--) {
                    int sum = t < MINUTES && t >= comings[j] ? waitsFrom(j, t) : NO_WAY;
                    // Of like ways the earlier minute: t runs down, so it takes the place.
                    if (sum < NO_WAY && sum <= best) {
                        best = sum;
                        minute = t;
                    }
                    least[j * ROW + t] = best;
                    chosen[j * ROW + t] = minute;
                }
            }
            total = ships > 0 ? least[0] : 0;
            walkBest();
        }

        private void walkBest() {
            openings = 0;
            int passed = 0;
            int free = 0;
            for (int i = 0; i < MOST_SHIPS && passed < ships; i++) {
                int t = chosen[passed * ROW + Math.min(free, MINUTES)];
                if (t == NONE) {
                    return;
                }
                openMinutes[i] = t;
                openShips[i] = shipsBy[t] - passed;
                openEnds[i] = endOfOpening(passed, t);
                openings = i + 1;
                free = openEnds[i];
                passed = shipsBy[t];
            }
        }

        private int waitsFrom(int passed, int t) {
            int now = waitsOfOpening(passed, t);
            int next = shipsBy[t];
            if (next >= ships) {
                return now;
            }
            int later = least[next * ROW + Math.min(endOfOpening(passed, t), MINUTES)];
            return later >= NO_WAY ? NO_WAY : now + later;
        }

        private int endOfOpening(int passed, int t) {
            return t + opens + takes * (shipsBy[t] - passed) + shuts;
        }

        private int waitsOfOpening(int passed, int t) {
            int next = shipsBy[t];
            int many = next - passed;
            int through = many * (t + opens) + takes * (many * (many + 1) / 2);
            int shipWaits = through - (comingSums[next] - comingSums[passed]);
            return shipRank * shipWaits + crosserWaits(t, endOfOpening(passed, t));
        }

        private int crosserWaits(int from, int till) {
            // No crosser comes later than the last column tells.
            int low = Math.min(from, LAST_COMING + 1);
            int high = Math.min(till, LAST_COMING + 1);
            int many = crossersAhead[high] - crossersAhead[low];
            return many * till - (crosserSums[high] - crosserSums[low]);
        }
    }

    /** III: foretold levels and the fewest days out. */
    private static final class Season {
        private static final int ROW = MOST_LAYS + 1;

        /** NONE where no level is foretold; of LOW no answer is made, so it isn't kept. */
        private final int[] highs = new int[DAYS];
        private final boolean[] outDays = new boolean[DAYS];
        /** Row d, column r: the fewest days out from d on, if r days (at most LAYS) ahead of it are. */
        private final int[] needed = new int[(DAYS + 1) * ROW];
        private int mostLevel = 50;
        private int laysDays = 3;
        private boolean planned;

        Season() {
            Arrays.fill(highs, NONE);
        }

        void foretell(int day, int high) {
            highs[day] = high;
            planned = false;
        }

        void setLimits(int most, int lays) {
            mostLevel = most;
            laysDays = lays;
            planned = false;
        }

        boolean isBad(int day) {
            return highs[day] == NONE || highs[day] > mostLevel;
        }

        boolean isOut(int day) {
            plan();
            return outDays[day];
        }

        int fewest() {
            plan();
            return needed[0];
        }

        private void plan() {
            if (planned) {
                return;
            }
            planned = true;
            // Row DAYS stays 0 for every run: one that ends with the last day may be short.
            for (int day = DAYS - 1; day >= 0; day--) {
                for (int run = 0; run <= laysDays; run++) {
                    int kept = needIfOut(day, run);
                    if (mayBeIn(day, run)) {
                        kept = Math.min(kept, needIfIn(day));
                    }
                    needed[day * ROW + run] = kept;
                }
            }
            chooseDays();
        }

        /** Of like sets a day stays in where it can: so the out days are the latest. */
        private void chooseDays() {
            int run = 0;
            for (int day = 0; day < DAYS; day++) {
                boolean in = mayBeIn(day, run) && needIfIn(day) <= needIfOut(day, run);
                outDays[day] = !in;
                run = in ? 0 : Math.min(run + 1, laysDays);
            }
        }

        private boolean mayBeIn(int day, int run) {
            return !isBad(day) && (run == 0 || run == laysDays);
        }

        private int needIfIn(int day) {
            return needed[(day + 1) * ROW];
        }

        private int needIfOut(int day, int run) {
            return 1 + needed[(day + 1) * ROW + Math.min(run + 1, laysDays)];
        }
    }

    /** IV: the bytes that have come and were not yet read. */
    private static final class Tape {
        private final byte[] bytes = new byte[TAPE_BYTES];
        private int length;

        int size() {
            return length;
        }

        int byteAt(int i) {
            return within(i, 0, length - 1) ? bytes[i] & 255 : NONE;
        }

        void addWord(int word) {
            for (int shift = 24; shift >= 0 && length < TAPE_BYTES; shift -= 8) {
                bytes[length] = (byte) (word >> shift);
                length++;
            }
        }

        void cutTo(int n) {
            length = n;
        }
    }

    /** IV: reads a tape as clauses, or tells its first fault. */
    private static final class TollReader {
        private static final String TOLL_WORD = "toll";
        private static final String AGAIN_WORD = "again";
        private static final int MOST_NUMBER = 999;

        private static final int TOKEN_END = 0;
        private static final int TOKEN_TOLL = 1;
        private static final int TOKEN_AGAIN = 2;
        private static final int TOKEN_NUMBER = 3;
        private static final int TOKEN_SEMICOLON = 4;
        private static final int TOKEN_UNFIT = 5;

        private static final int DUE_CLAUSE = 0;
        private static final int DUE_KIND = 1;
        private static final int DUE_AMOUNT = 2;
        private static final int DUE_SEMICOLON = 3;

        private static final int MISPLACED = 1;
        private static final int TWICE = 2;
        private static final int NOT_TOLD = 3;

        /** NONE where no clause told one: a toll of 0 that was told may not be told again. */
        private final int[] tollRow = new int[KINDS];
        private final int[] againRow = new int[KINDS];
        private int clauses;
        private int faultCode = NONE;
        private int faultPlace = NONE;
        private int cursor;
        private int tokenType;
        private int tokenStart;
        private int tokenValue;
        private int due;
        private int clauseType;
        private int clauseKind;

        int clauseCount() {
            return clauses;
        }

        int faultNumber() {
            return faultCode;
        }

        int faultAt() {
            return faultPlace;
        }

        int readToll(int kind) {
            return Math.max(0, tollRow[kind]);
        }

        int readAgain(int kind) {
            return Math.max(0, againRow[kind]);
        }

        boolean read(Tape text) {
            begin();
            // Each token but the end has a byte at least, so the end comes within these turns.
            for (int turn = 0; turn <= text.size(); turn++) {
                nextToken(text);
                if (tokenType == TOKEN_END && due == DUE_CLAUSE) {
                    return true;
                }
                int found = takeToken();
                if (found != 0) {
                    faultCode = found;
                    faultPlace = tokenStart;
                    return false;
                }
            }
            return true;
        }

        private void begin() {
            Arrays.fill(tollRow, NONE);
            Arrays.fill(againRow, NONE);
            clauses = 0;
            faultCode = 0;
            faultPlace = NONE;
            cursor = 0;
            due = DUE_CLAUSE;
        }

        private void nextToken(Tape text) {
            while (cursor < text.size() && text.byteAt(cursor) == ' ') {
                cursor++;
            }
            tokenStart = cursor;
            int first = text.byteAt(cursor);
            if (cursor >= text.size()) {
                tokenType = TOKEN_END;
            } else if (isDigit(first)) {
                takeDigits(text);
            } else if (isLetter(first)) {
                takeLetters(text);
            } else {
                cursor++;
                tokenType = first == ';' ? TOKEN_SEMICOLON : TOKEN_UNFIT;
            }
        }

        private void takeDigits(Tape text) {
            tokenType = TOKEN_NUMBER;
            tokenValue = 0;
            while (cursor < text.size() && isDigit(text.byteAt(cursor))) {
                int value = tokenValue * 10 + text.byteAt(cursor) - '0';
                // Held just above all that may be told, so that no row of digits wraps around.
                tokenValue = Math.min(value, MOST_NUMBER + 1);
                cursor++;
            }
        }

        private void takeLetters(Tape text) {
            while (cursor < text.size() && isLetter(text.byteAt(cursor))) {
                cursor++;
            }
            if (tokenIs(text, TOLL_WORD)) {
                tokenType = TOKEN_TOLL;
            } else {
                tokenType = tokenIs(text, AGAIN_WORD) ? TOKEN_AGAIN : TOKEN_UNFIT;
            }
        }

        private boolean tokenIs(Tape text, String word) {
            if (cursor - tokenStart != word.length()) {
                return false;
            }
            for (int i = 0; i < word.length(); i++) {
                if (text.byteAt(tokenStart + i) != word.charAt(i)) {
                    return false;
                }
            }
            return true;
        }

        private int takeToken() {
            switch (due) {
                case DUE_CLAUSE: return takeClauseWord();
                case DUE_KIND: return takeKind();
                case DUE_AMOUNT: return takeAmount();
                default: return takeSemicolon();
            }
        }

        private int takeClauseWord() {
            if (tokenType != TOKEN_TOLL && tokenType != TOKEN_AGAIN) {
                return MISPLACED;
            }
            clauseType = tokenType;
            due = DUE_KIND;
            return 0;
        }

        private int takeKind() {
            if (tokenType != TOKEN_NUMBER) {
                return MISPLACED;
            }
            if (!within(tokenValue, 0, KINDS - 1)) {
                return NOT_TOLD;
            }
            if (clauseRow()[tokenValue] != NONE) {
                return TWICE;
            }
            clauseKind = tokenValue;
            due = DUE_AMOUNT;
            return 0;
        }

        private int takeAmount() {
            if (tokenType != TOKEN_NUMBER) {
                return MISPLACED;
            }
            int lowest = clauseType == TOKEN_AGAIN ? 1 : 0;
            if (!within(tokenValue, lowest, MOST_NUMBER)) {
                return NOT_TOLD;
            }
            clauseRow()[clauseKind] = tokenValue;
            due = DUE_SEMICOLON;
            return 0;
        }

        private int takeSemicolon() {
            if (tokenType != TOKEN_SEMICOLON) {
                return MISPLACED;
            }
            clauses++;
            due = DUE_CLAUSE;
            return 0;
        }

        private int[] clauseRow() {
            return clauseType == TOKEN_AGAIN ? againRow : tollRow;
        }

        private static boolean isDigit(int b) {
            return within(b, '0', '9');
        }

        private static boolean isLetter(int b) {
            return within(b, 'a', 'z') || within(b, 'A', 'Z');
        }
    }

    /** IV: the tolls in force, and what each one who passed has paid. */
    private static final class Till {
        private final int[] tollRow = new int[KINDS];
        private final int[] againRow = new int[KINDS];
        /** By who and kind: the minute of the latest paid pass that no free one was gone on. */
        private final int[] openReturns = new int[WALKERS * KINDS];
        private int latest;
        private int paid;
        private int free;

        Till() {
            Arrays.fill(openReturns, NONE);
        }

        int tollOf(int kind) {
            return tollRow[kind];
        }

        int againOf(int kind) {
            return againRow[kind];
        }

        int latestMinute() {
            return latest;
        }

        int paidTogether() {
            return paid;
        }

        int wentFree() {
            return free;
        }

        void adopt(TollReader read) {
            for (int kind = 0; kind < KINDS; kind++) {
                tollRow[kind] = read.readToll(kind);
                againRow[kind] = read.readAgain(kind);
            }
        }

        int charge(int kind, int who, int minute) {
            latest = minute;
            int spot = who * KINDS + kind;
            if (goesFree(kind, spot, minute)) {
                openReturns[spot] = NONE;
                free++;
                return 0;
            }
            if (tollRow[kind] > 0) {
                openReturns[spot] = minute;
                paid += tollRow[kind];
            }
            return tollRow[kind];
        }

        private boolean goesFree(int kind, int spot, int minute) {
            // Without an again clause there is no free return, not even in the same minute.
            return againRow[kind] > 0 && openReturns[spot] != NONE
                    && minute - openReturns[spot] <= againRow[kind];
        }
    }
}
