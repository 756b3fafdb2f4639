/**
 * A republic whose council is drawn by a lottery: those rule who win nothing. The numbered promises
 * that it keeps stand in the project's document, ../shared/DOC.md.
 */
public final class LoserDraws {
    public static final int UNKNOWN = -1, OUTSIDE = -2, STATE = -3, FULL = -4, NONE = -9;
    public static final long LOST = Long.MIN_VALUE;

    private static final int NULL = 1, CAST = 2, INDEX = 3, SIZE = 4;
    private static final int RICH = 1, MISER = 2;
    private static final int MOST_CITIZENS = 6, MOST_TICKETS = 9, MOST_DRAWN = 6, MOST_PRICE = 9;
    private static final int MOST_BOUGHT = 20, MOST_TOLD = 20, MOST_SHARE = 999;
    private static final int MOST_READINGS = 8, MOST_SHEETS = 4, MOST_CELLS = 60, LANES = 3;

    private final Citizen[] citizens = new Citizen[MOST_CITIZENS];
    private int people;
    private int drawnNow;
    private int priceNow;
    private final int[] readings = new int[MOST_READINGS];
    private int readingsKept;
    private final Row[] sheets = new Row[MOST_SHEETS];
    private final Drum drum = new Drum();
    private int traceNow;
    private int lastFault;

    public LoserDraws() {
        for (int c = 0; c < MOST_CITIZENS; c++) {
            citizens[c] = new Citizen();
        }
        for (int k = 0; k < MOST_SHEETS; k++) {
            sheets[k] = new Row();
        }
    }

    // ---- 1 the republic

    public int republic(int sheet, int lane, int i, int n) {
        lastFault = 0;
        if (!isSheet(sheet)) {
            return UNKNOWN;
        }
        if (!isLane(lane)) {
            return OUTSIDE;
        }
        Row row = rowOf(sheet);
        int found = faultOf(row, lane, i, n);
        if (row == null || found != 0) {
            return faulted(found);
        }
        int wrong = Text.firstFault(row, i, n);
        if (wrong != NONE) {
            return -100 - wrong;
        }
        takeText(row, i, n);
        return people;
    }

    public int ofCitizen(int c, int what) {
        Citizen who = citizen(c);
        if (who == null) {
            return UNKNOWN;
        }
        switch (what) {
            case 0:
                return who.kind;
            case 1:
                return who.tickets;
            case 2:
                return who.geese;
            case 3:
                return who.wishes ? 1 : 0;
            case 4:
                return who.slips();
            case 5:
                return slipsAhead(c);
            default:
                return OUTSIDE;
        }
    }

    public int drawn(int v) {
        if (v < 0 || v > MOST_DRAWN) {
            return OUTSIDE;
        }
        if (people == 0) {
            return STATE;
        }
        int was = drawnNow;
        drawnNow = v;
        return was;
    }

    public int price(int v) {
        if (v < 1 || v > MOST_PRICE) {
            return OUTSIDE;
        }
        if (people == 0) {
            return STATE;
        }
        int was = priceNow;
        priceNow = v;
        return was;
    }

    public int wish(int c, boolean is) {
        Citizen who = citizen(c);
        if (who == null) {
            return UNKNOWN;
        }
        if (who.wishes == is) {
            return 0;
        }
        who.wishes = is;
        return 1;
    }

    // ---- 2 draws

    public int draw(int sheet, int lane, int i, int n, int what) {
        lastFault = 0;
        if (!isSheet(sheet)) {
            return UNKNOWN;
        }
        if (!isLane(lane) || n < 0 || n > MOST_TOLD || what < 0 || what > 2) {
            return OUTSIDE;
        }
        if (people == 0) {
            return STATE;
        }
        Row row = rowOf(sheet);
        int found = faultOf(row, lane, i, n);
        if (row == null || found != 0) {
            return faulted(found);
        }
        int wrong = firstWrong(row, i, n);
        if (what == 1) {
            return wrong;
        }
        if (wrong != NONE) {
            return -100 - wrong;
        }
        int rulers = rulersBy(row, i, n);
        if (what == 0) {
            return rulers;
        }
        fillDrum();
        return drum.passesUnder(rulers) ? 1 : 0;
    }

    public long rules(int c, int which) {
        if (citizen(c) == null || !isWhich(which)) {
            return LOST;
        }
        fillDrum();
        return partOf(drum.drawsSparing(c), drum.draws(), which);
    }

    public long just(int set, int which) {
        if (people == 0 || !isSet(set) || !isWhich(which)) {
            return LOST;
        }
        fillDrum();
        return partOf(drum.drawsLeavingJust(set), drum.draws(), which);
    }

    public long mean(int which) {
        if (people == 0 || !isWhich(which)) {
            return LOST;
        }
        fillDrum();
        long sum = 0;
        for (int c = 0; c < people; c++) {
            sum += drum.drawsSparing(c);
        }
        return partOf(sum, drum.draws(), which);
    }

    public long passes(int which) {
        if (people == 0 || !isWhich(which)) {
            return LOST;
        }
        fillDrum();
        return partOf(drum.drawsPassing(), drum.draws(), which);
    }

    // ---- 3 tickets, geese

    public int buy(int c, int upper, int lower) {
        Citizen who = citizen(c);
        if (who == null) {
            return UNKNOWN;
        }
        if (upper < 0 || upper > MOST_SHARE || lower < 1 || lower > MOST_SHARE) {
            return OUTSIDE;
        }
        fillDrum();
        for (int more = 0; more <= MOST_BOUGHT && more * priceNow <= who.geese; more++) {
            drum.setSlips(c, who.slips() + more);
            long free = drum.draws() - drum.drawsSparing(c);
            if (free * lower >= upper * drum.draws()) {
                return more;
            }
        }
        return NONE;
    }

    public int lend(int c) {
        Citizen giver = citizen(c);
        if (giver == null) {
            return UNKNOWN;
        }
        if (giver.tickets < 2) {
            return STATE;
        }
        fillDrum();
        long bestUpper = drum.drawsPassing();
        long bestLower = drum.draws();
        int best = NONE;
        drum.setSlips(c, slipsOf(giver.kind, giver.tickets - 1));
        for (int to = 0; to < people; to++) {
            Citizen taker = citizen(to);
            if (to == c || taker == null) {
                continue;
            }
            drum.setSlips(to, slipsOf(taker.kind, taker.tickets + 1));
            long upper = drum.drawsPassing();
            long lower = drum.draws();
            if (isMore(upper, lower, bestUpper, bestLower)) {
                bestUpper = upper;
                bestLower = lower;
                best = to;
            }
            drum.setSlips(to, taker.slips());
        }
        return best;
    }

    public int least(int what) {
        if (what < 0 || what > 1) {
            return OUTSIDE;
        }
        if (people == 0) {
            return STATE;
        }
        fillDrum();
        if (drum.passesByHalf()) {
            return what == 0 ? 0 : NONE;
        }
        int least = NONE;
        int whom = NONE;
        for (int c = 0; c < people; c++) {
            Citizen who = citizen(c);
            // Paying one who wishes it already changes nothing.
            if (who == null || who.wishes) {
                continue;
            }
            int geese = who.geese + priceNow * who.tickets;
            drum.setWishes(c, true);
            if (drum.passesByHalf() && (whom == NONE || geese < least)) {
                least = geese;
                whom = c;
            }
            drum.setWishes(c, false);
        }
        return what == 0 ? least : whom;
    }

    // ---- 4 who ruled

    public int reading(int set) {
        if (people == 0) {
            return STATE;
        }
        if (!isSet(set)) {
            return OUTSIDE;
        }
        if (readingsKept < 0 || readingsKept >= readings.length) {
            return FULL;
        }
        readings[readingsKept] = set;
        readingsKept++;
        return readingsKept - 1;
    }

    public int back(int k) {
        if (k < 0 || k > readingsKept) {
            return OUTSIDE;
        }
        readingsKept -= k;
        return readingsKept;
    }

    public int tickets(int c) {
        Citizen who = citizen(c);
        if (who == null) {
            return UNKNOWN;
        }
        fillDrum();
        int set = 0;
        for (int t = 1; t <= MOST_TICKETS; t++) {
            drum.setSlips(c, slipsOf(who.kind, t));
            if (allReadingsCanBe()) {
                set |= 1 << t;
            }
        }
        return set;
    }

    public int kinds(int c) {
        Citizen who = citizen(c);
        if (who == null) {
            return UNKNOWN;
        }
        fillDrum();
        int set = 0;
        for (int kind = 0; kind <= MISER; kind++) {
            drum.setSlips(c, slipsOf(kind, who.tickets));
            if (allReadingsCanBe()) {
                set |= 1 << kind;
            }
        }
        return set;
    }

    public int counts() {
        if (people == 0) {
            return STATE;
        }
        fillDrum();
        int set = 0;
        for (int d = 0; d <= MOST_DRAWN; d++) {
            drum.setDrawn(d);
            if (allReadingsCanBe()) {
                set |= 1 << d;
            }
        }
        return set;
    }

    // ---- 5 sheets, parts

    public int sheet(int k, int lane, int n) {
        lastFault = 0;
        Row row = placeOf(k);
        if (row == null) {
            return UNKNOWN;
        }
        if (!isLane(lane) || n > MOST_CELLS) {
            return OUTSIDE;
        }
        if (n < 0) {
            return faulted(SIZE);
        }
        row.begin(lane, n);
        return 1;
    }

    public int lose(int k) {
        if (!isSheet(k)) {
            return UNKNOWN;
        }
        Row row = rowOf(k);
        if (row == null) {
            return 0;
        }
        row.end();
        return 1;
    }

    public int put(int k, int i, int v) {
        lastFault = 0;
        if (!isSheet(k)) {
            return UNKNOWN;
        }
        Row row = rowOf(k);
        if (row == null) {
            return faulted(NULL);
        }
        if (!row.holds(i, 1)) {
            return faulted(INDEX);
        }
        row.set(i, v);
        return 1;
    }

    public long cell(int k, int i, int lane) {
        lastFault = 0;
        if (!isSheet(k) || !isLane(lane)) {
            return LOST;
        }
        Row row = rowOf(k);
        int found = faultOf(row, lane, i, 1);
        if (row == null || found != 0) {
            lastFault = found;
            return LOST;
        }
        return row.at(i);
    }

    public int copy(int k, int i, int other, int j, int n) {
        lastFault = 0;
        if (!isSheet(k) || !isSheet(other)) {
            return UNKNOWN;
        }
        Row from = rowOf(k);
        Row to = rowOf(other);
        if (from == null || to == null) {
            return faulted(NULL);
        }
        if (from.lane != to.lane) {
            return faulted(CAST);
        }
        if (!from.holds(i, n) || !to.holds(j, n)) {
            return faulted(INDEX);
        }
        System.arraycopy(from.cells, i, to.cells, j, n);
        return n;
    }

    public int tell(int c) {
        Citizen who = citizen(c);
        if (who == null) {
            return UNKNOWN;
        }
        switch (who.kind) {
            case MISER:
                return miserTells(who.tickets);
            case RICH:
                return richTells(who.tickets);
            default:
                return citizenTells(who.tickets);
        }
    }

    public int call(int c) {
        Citizen who = citizen(c);
        if (who == null) {
            return UNKNOWN;
        }
        if (who.kind == MISER) {
            leaveInTrace(5);
            return 20;
        }
        leaveInTrace(4);
        return c;
    }

    public int as(int c, int kind) {
        lastFault = 0;
        Citizen who = citizen(c);
        if (who == null) {
            return UNKNOWN;
        }
        if (kind < 0 || kind > MISER) {
            return OUTSIDE;
        }
        // Each kind is also all the kinds below it.
        return who.kind < kind ? faulted(CAST) : 1;
    }

    public int trace() {
        return traceNow;
    }

    public int fault() {
        return lastFault;
    }

    public int many(int what) {
        switch (what) {
            case 0:
                return people;
            case 1:
                return slipsAhead(people);
            case 2:
                return drawnNow;
            case 3:
                return priceNow;
            case 4:
                return readingsKept;
            default:
                return OUTSIDE;
        }
    }

    // ---- what the calls share

    private static boolean isSheet(int k) {
        return k >= 0 && k < MOST_SHEETS;
    }

    private static boolean isLane(int lane) {
        return lane >= 0 && lane < LANES;
    }

    private static boolean isWhich(int which) {
        return which == 0 || which == 1;
    }

    private boolean isSet(int set) {
        return set >= 0 && set < 1 << people;
    }

    /** The CITIZEN of a number, or null where there is none. */
    private Citizen citizen(int c) {
        return c >= 0 && c < people && c < citizens.length ? citizens[c] : null;
    }

    /** The row of a SHEET, there or not, or null where there is no such SHEET. */
    private Row placeOf(int k) {
        return isSheet(k) && k < sheets.length ? sheets[k] : null;
    }

    /** What a SHEET has, or null where it has nothing. */
    private Row rowOf(int k) {
        Row row = placeOf(k);
        return row != null && row.isThere ? row : null;
    }

    private int faulted(int found) {
        lastFault = found;
        return -10 - found;
    }

    /** The first FAULT of n cells from i on, taken as a row of a LANE; 0 where there is none. */
    private static int faultOf(Row row, int lane, int i, int n) {
        if (row == null) {
            return NULL;
        }
        if (row.lane != lane) {
            return CAST;
        }
        if (n < 0) {
            return SIZE;
        }
        return row.holds(i, n) ? 0 : INDEX;
    }

    private static int slipsOf(int kind, int tickets) {
        int rich = kind >= RICH ? tickets + 1 : tickets;
        return kind >= MISER ? 2 * rich : rich;
    }

    /** How many SLIPS the CITIZENS below a number have: just where that one's own begin. */
    private int slipsAhead(int c) {
        int sum = 0;
        for (int k = 0; k < c; k++) {
            Citizen who = citizen(k);
            sum += who == null ? 0 : who.slips();
        }
        return sum;
    }

    private int ownerOf(int slip) {
        int first = 0;
        for (int c = 0; c < people && slip >= first; c++) {
            Citizen who = citizen(c);
            first += who == null ? 0 : who.slips();
            if (slip < first) {
                return c;
            }
        }
        return NONE;
    }

    /** Takes a TEXT that is known to be without a fault. */
    private void takeText(Row row, int i, int n) {
        people = Text.citizensIn(n);
        drawnNow = Text.digit(row.at(i + 1));
        priceNow = Text.digit(row.at(i + 2));
        readingsKept = 0;
        for (int c = 0; c < people; c++) {
            Citizen who = citizen(c);
            if (who != null) {
                Text.tellCitizen(row, i + Text.HEAD + c * Text.PART, who);
            }
        }
    }

    private int firstWrong(Row row, int i, int n) {
        for (int p = 0; p < n; p++) {
            int slip = row.at(i + p);
            if (ownerOf(slip) == NONE || row.has(slip, i, p)) {
                return p;
            }
        }
        return NONE;
    }

    private int rulersBy(Row row, int i, int n) {
        int set = (1 << people) - 1;
        for (int p = 0; p < n; p++) {
            int owner = ownerOf(row.at(i + p));
            if (owner != NONE) {
                set &= ~(1 << owner);
            }
        }
        return set;
    }

    /** The drum is filled anew for each question, as a "what if" leaves it changed. */
    private void fillDrum() {
        drum.empty(people, drawnNow);
        for (int c = 0; c < people; c++) {
            Citizen who = citizen(c);
            if (who != null) {
                drum.setSlips(c, who.slips());
                drum.setWishes(c, who.wishes);
            }
        }
    }

    private boolean allReadingsCanBe() {
        for (int k = 0; k < readingsKept && k < readings.length; k++) {
            if (!drum.canLeaveJust(readings[k])) {
                return false;
            }
        }
        return true;
    }

    /** The upper (which 0) or lower number of a share in least terms. */
    private static long partOf(long upper, long lower, int which) {
        long divisor = upper;
        long rest = lower;
        // Euclid's way needs fewer than 92 steps for any two longs.
        for (int step = 0; step < 100 && rest != 0; step++) {
            long next = divisor % rest;
            divisor = rest;
            rest = next;
        }
        long part = which == 0 ? upper : lower;
        return divisor == 0 ? part : part / divisor;
    }

    /**
     * Whether the first share is above the second. The products stay below 2 to the 64th (a drum of
     * 120 SLIPS has 3652745460 draws), but not below 2 to the 63rd: so they are compared unsigned.
     */
    private static boolean isMore(long upper, long lower, long thanUpper, long thanLower) {
        return (upper * thanLower ^ Long.MIN_VALUE) > (thanUpper * lower ^ Long.MIN_VALUE);
    }

    private void leaveInTrace(int body) {
        traceNow = 31 * traceNow + body;
    }

    private int citizenTells(int tickets) {
        leaveInTrace(1);
        return tickets;
    }

    private int richTells(int tickets) {
        leaveInTrace(2);
        return citizenTells(tickets) + 100;
    }

    private int miserTells(int tickets) {
        leaveInTrace(3);
        int asRich = richTells(tickets);
        return asRich + citizenTells(tickets);
    }

    private static final class Citizen {
        private int kind;
        private int tickets;
        private int geese;
        private boolean wishes;

        private int slips() {
            return slipsOf(kind, tickets);
        }
    }

    /**
     * What a SHEET has: cells that are cut to their LANE as they are set. A SHEET has the same row all
     * along, begun anew and ended, so that no call makes one.
     */
    private static final class Row {
        private final int[] cells = new int[MOST_CELLS];
        private boolean isThere;
        private int lane;
        private int length;

        private void begin(int ofLane, int n) {
            isThere = true;
            lane = ofLane;
            length = Math.max(0, Math.min(n, cells.length));
            for (int i = 0; i < cells.length; i++) {
                cells[i] = 0;
            }
        }

        private void end() {
            isThere = false;
        }

        private boolean holds(int i, int n) {
            return i >= 0 && n >= 0 && i <= length && n <= length - i;
        }

        private int at(int i) {
            return i >= 0 && i < cells.length ? cells[i] : 0;
        }

        private void set(int i, int v) {
            if (i >= 0 && i < cells.length) {
                cells[i] = cut(v);
            }
        }

        private int cut(int v) {
            switch (lane) {
                case 0:
                    return (byte) v;
                case 1:
                    return (short) v;
                default:
                    return v;
            }
        }

        /** Whether one of n cells from i on is v. */
        private boolean has(int v, int i, int n) {
            for (int p = 0; p < n; p++) {
                if (at(i + p) == v) {
                    return true;
                }
            }
            return false;
        }
    }

    /** The form of a TEXT: a head of three codes, then six codes for each CITIZEN. */
    private static final class Text {
        private static final int HEAD = 3, PART = 6;

        private static int firstFault(Row row, int i, int n) {
            for (int p = 0; p < n; p++) {
                if (!goesOnWith(row.at(i + p), p)) {
                    return p;
                }
            }
            boolean whole = n >= HEAD + PART && (n - HEAD) % PART == 0;
            return whole ? NONE : n;
        }

        private static boolean goesOnWith(int code, int place) {
            switch (place) {
                case 0:
                    return code == 'l';
                case 1:
                    return isDigit(code, 0, MOST_DRAWN);
                case 2:
                    return isDigit(code, 1, MOST_PRICE);
                default:
                    return place < HEAD + MOST_CITIZENS * PART && citizenGoesOnWith(code, (place - HEAD) % PART);
            }
        }

        private static boolean citizenGoesOnWith(int code, int place) {
            switch (place) {
                case 0:
                    return code == ';';
                case 1:
                    return code == 'c' || code == 'r' || code == 'm';
                case 2:
                    return isDigit(code, 1, MOST_TICKETS);
                case 3:
                case 4:
                    return isDigit(code, 0, 9);
                default:
                    return code == 'y' || code == 'n';
            }
        }

        private static boolean isDigit(int code, int from, int to) {
            return code >= '0' + from && code <= '0' + to;
        }

        private static int digit(int code) {
            return code - '0';
        }

        private static int citizensIn(int n) {
            return Math.min((n - HEAD) / PART, MOST_CITIZENS);
        }

        private static void tellCitizen(Row row, int i, Citizen who) {
            int letter = row.at(i + 1);
            who.kind = letter == 'm' ? MISER : letter == 'r' ? RICH : 0;
            who.tickets = digit(row.at(i + 2));
            who.geese = 10 * digit(row.at(i + 3)) + digit(row.at(i + 4));
            who.wishes = row.at(i + 5) == 'y';
        }
    }

    /**
     * The SLIPS of each CITIZEN and how many are drawn of them, apart from the REPUBLIC itself, so
     * that a question may change them. Likelihoods are told as how many of all the draws there are.
     */
    private static final class Drum {
        private static final int SPAN = MOST_DRAWN + 1;

        private final int[] slips = new int[MOST_CITIZENS];
        /** How many ways a CITIZEN has to have a number of SLIPS drawn: SPAN numbers for each. */
        private final long[] picks = new long[MOST_CITIZENS * SPAN];
        /** How many ways a number of SLIPS has to make just a set FREE: SPAN numbers for each set. */
        private final long[] freeing = new long[(1 << MOST_CITIZENS) * SPAN];
        private int people;
        private int wishers;
        private int drawn;
        private int total;

        private Drum() {
            // No SLIP at all has one way to make nobody FREE.
            freeing[0] = 1;
        }

        private void empty(int howMany, int toDraw) {
            people = Math.max(0, Math.min(howMany, MOST_CITIZENS));
            wishers = 0;
            total = 0;
            for (int c = 0; c < slips.length; c++) {
                slips[c] = 0;
            }
            setDrawn(toDraw);
        }

        private void setDrawn(int toDraw) {
            drawn = Math.max(0, Math.min(toDraw, MOST_DRAWN));
        }

        private void setSlips(int c, int n) {
            if (c < 0 || c >= slips.length) {
                return;
            }
            total += n - slips[c];
            slips[c] = n;
            for (int k = 0; k < SPAN; k++) {
                int at = c * SPAN + k;
                if (at < picks.length) {
                    picks[at] = choose(n, k);
                }
            }
        }

        private void setWishes(int c, boolean is) {
            int bit = 1 << c;
            wishers = is ? wishers | bit : wishers & ~bit;
        }

        private int slipsOfOne(int c) {
            return c >= 0 && c < slips.length ? slips[c] : 0;
        }

        /** How many SLIPS come out: all of them, if there are fewer than are to be drawn. */
        private int taken() {
            return Math.min(drawn, total);
        }

        private long draws() {
            return choose(total, taken());
        }

        /** The draws in which a CITIZEN RULES. */
        private long drawsSparing(int c) {
            return choose(total - slipsOfOne(c), taken());
        }

        private long drawsLeavingJust(int set) {
            countFreeing();
            return freeingBy(everybody() & ~set, taken());
        }

        private long drawsPassing() {
            countFreeing();
            int taken = taken();
            long sum = 0;
            for (int set = 0; set <= everybody(); set++) {
                if (passesUnder(set)) {
                    sum += freeingBy(everybody() & ~set, taken);
                }
            }
            return sum;
        }

        private boolean passesUnder(int rulers) {
            return Integer.bitCount(rulers & wishers) > Integer.bitCount(rulers & ~wishers);
        }

        private boolean passesByHalf() {
            return 2 * drawsPassing() >= draws();
        }

        /** All that is drawn must be of those who are FREE, and each of them must have some of it. */
        private boolean canLeaveJust(int set) {
            int free = everybody() & ~set;
            int theirs = 0;
            for (int c = 0; c < people; c++) {
                if ((free >> c & 1) == 1) {
                    theirs += slipsOfOne(c);
                }
            }
            return Integer.bitCount(free) <= taken() && taken() <= theirs;
        }

        private int everybody() {
            return (1 << people) - 1;
        }

        private long freeingBy(int set, int n) {
            int at = set * SPAN + n;
            return set >= 0 && n >= 0 && n < SPAN && at < freeing.length ? freeing[at] : 0;
        }

        /** Each set is told by a smaller one, the others, and its last CITIZEN. */
        private void countFreeing() {
            for (int last = 0; last < people; last++) {
                for (int others = 0; others < 1 << last; others++) {
                    countFreeingWith(others, last);
                }
            }
        }

        /**
         * Fewer SLIPS than there are CITIZENS in a set can't make it FREE: these places are never set
         * and stay 0.
         */
        private void countFreeingWith(int others, int last) {
            int taken = taken();
            int set = others | 1 << last;
            for (int n = Integer.bitCount(set); n <= taken && n < SPAN; n++) {
                int at = set * SPAN + n;
                if (at >= 0 && at < freeing.length) {
                    freeing[at] = waysWithLast(others, last, n);
                }
            }
        }

        /** How many ways n SLIPS have to make just the others and a last CITIZEN FREE. */
        private long waysWithLast(int others, int last, int n) {
            int most = n - Integer.bitCount(others);
            long sum = 0;
            for (int k = 1; k <= most; k++) {
                int pick = last * SPAN + k;
                int rest = others * SPAN + n - k;
                if (pick >= 0 && pick < picks.length && rest >= 0 && rest < freeing.length) {
                    sum += picks[pick] * freeing[rest];
                }
            }
            return sum;
        }

        /** How many sets of k there are out of n. */
        private static long choose(int n, int k) {
            long ways = 1;
            for (int j = 0; j < k; j++) {
                if (n - j <= 0) {
                    return 0;
                }
                ways = ways * (n - j) / (j + 1);
            }
            return ways;
        }
    }
}
