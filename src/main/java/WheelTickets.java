import java.util.Arrays;

/**
 * Tickets in the crown's debt, drawn day by day from a wheel: who pays, who has the prizes, and what the
 * rest of the wheel can still bring. The words in capitals are those of the document (DOC.md).
 */
public final class WheelTickets {
    public static final int BAD = -1, STATE = -2, FULL = -3, NONE = -4;

    /** At most so many PEOPLE, TICKETS, PRIZES, draws told in a text. */
    private static final int MOST = 4;
    private static final int MUCH_MOST = 99;
    private static final int FEE_MOST = 9;
    private static final int END_MOST = 999;
    private static final int SEEN_MOST = 6;
    private static final int TAPE_MOST = 160;
    private static final int IMAGES_MOST = 2;
    private static final int SHEETS_MOST = 4;
    private static final int CELLS_MOST = 40;
    private static final int READS_MOST = 20;
    /** Keeps a PURSE below 0 apart from BAD and its like. */
    private static final int SHIFT = 10000;
    /** Less than every sum that is compared: a PURSE stays within a thousand, its mean's sum within ten thousand. */
    private static final int BELOW_ALL = -1000000;

    private static final int WHOLE = 0, HIRED = 1, SPLIT = 2, INSURED = 3;
    private static final int KIND = 0, OWNER = 1, OTHER = 2, FEE = 3, TRAITS = 4;
    private static final int PERSON_LINE = 4, PRIZE_LINE = 5, DRAW_LINE = 6, LINES = 7;
    private static final int TOKEN_END = 0, TOKEN_NAME = 1, TOKEN_NUMBER = 2, TOKEN_STOP = 3, TOKEN_WRONG = 4;
    private static final int NO_FAULT = 0;
    private static final int MACHINE_NULL = 1, MACHINE_INDEX = 2, MACHINE_CAST = 3, MACHINE_SIZE = 4;

    private static final int ORDERS_MOST = 24;
    /** Rows of four: the first n! rows are the orders of the first n places, the places behind stay. */
    private static final int[] ORDERS = {
        0, 1, 2, 3,
        1, 0, 2, 3,
        0, 2, 1, 3,  1, 2, 0, 3,  2, 0, 1, 3,  2, 1, 0, 3,
        0, 1, 3, 2,  0, 2, 3, 1,  0, 3, 1, 2,  0, 3, 2, 1,  1, 0, 3, 2,  1, 2, 3, 0,
        1, 3, 0, 2,  1, 3, 2, 0,  2, 0, 3, 1,  2, 1, 3, 0,  2, 3, 0, 1,  2, 3, 1, 0,
        3, 0, 1, 2,  3, 0, 2, 1,  3, 1, 0, 2,  3, 1, 2, 0,  3, 2, 0, 1,  3, 2, 1, 0
    };

    private final Wheel now = new Wheel();
    /** What is only tried: a text that may be refused, a draw of a sheet, another FEE. */
    private final Wheel trial = new Wheel();
    private final Wheel[] images = new Wheel[IMAGES_MOST];
    /** 1 for each IMAGE that there is, else 0. */
    private final int[] kept = new int[IMAGES_MOST];
    private final Rest rest = new Rest();
    private final Tape tape = new Tape();
    private final Teller teller = new Teller();
    private final Sheet[] sheets = new Sheet[SHEETS_MOST];
    private int tornFault = NO_FAULT;

    public WheelTickets() {
        for (int k = 0; k < IMAGES_MOST; k++) {
            images[k] = new Wheel();
        }
        for (int k = 0; k < SHEETS_MOST; k++) {
            sheets[k] = new Sheet();
        }
    }

    // ---- the text

    public int feed(int c) {
        if (!within(c, 0, 127)) {
            return BAD;
        }
        return tape.put(c) ? tape.length : FULL;
    }

    public int end(int n) {
        if (!within(n, 0, tape.length)) {
            return BAD;
        }
        int had = tape.length;
        tape.length = n;
        return had;
    }

    public int text() {
        int answer = teller.tell(tape, trial);
        tape.length = 0;
        if (teller.found == NO_FAULT) {
            now.copy(trial);
            Arrays.fill(kept, 0);
        }
        return answer;
    }

    public int fault() {
        return teller.found;
    }

    public int rule(int what) {
        switch (what) {
            case 0: return now.people;
            case 1: return now.tickets;
            case 2: return now.daysGone();
            case 3: return now.ticketsIn();
            case 4: return now.prizesIn();
            case 5: return now.amountIn();
            default: return BAD;
        }
    }

    public int person(int p, int what) {
        if (!now.hasPerson(p)) {
            return BAD;
        }
        switch (what) {
            case 0: return SHIFT + now.purses[p];
            case 1: return now.ticketsWith(OWNER, p);
            case 2: return now.ticketsWith(OTHER, p);
            default: return BAD;
        }
    }

    public int ticket(int t, int what) {
        if (!now.hasTicket(t) || !within(what, 0, TRAITS)) {
            return BAD;
        }
        return what < TRAITS ? now.trait(t, what) : now.drew[t];
    }

    public int prize(int k, int what) {
        if (!now.hasPrize(k) || !within(what, 0, 1)) {
            return BAD;
        }
        return what == 0 ? now.amounts[k] : now.drawnBy[k];
    }

    // ---- what is changed

    public int sign(int t, int what, int v) {
        if (!now.hasTicket(t) || !now.takesTrait(what, v)) {
            return BAD;
        }
        if (!now.isTicketIn(t)) {
            return STATE;
        }
        int was = now.trait(t, what);
        now.setTrait(t, what, v);
        return was;
    }

    public int fill(int p, int v) {
        if (!now.hasPerson(p) || !within(v, 0, MUCH_MOST)) {
            return BAD;
        }
        int was = now.purses[p];
        now.purses[p] = v;
        return SHIFT + was;
    }

    public int promise(int k, int v) {
        if (!now.hasPrize(k) || !within(v, 0, MUCH_MOST)) {
            return BAD;
        }
        if (!now.isPrizeIn(k)) {
            return STATE;
        }
        int was = now.amounts[k];
        now.amounts[k] = v;
        return was;
    }

    public int draw(int t, int k) {
        int refusal = now.refusal(t, k);
        if (refusal != 0) {
            return refusal;
        }
        now.pull(t, k);
        return now.amounts[k];
    }

    // ---- what it is worth

    public long worth(int what) {
        if (!isPart(what)) {
            return BAD;
        }
        int prizes = Integer.bitCount(now.prizesIn());
        return prizes == 0 ? NONE : part(now.amountIn(), prizes, what);
    }

    public long day(int t, int what) {
        if (!now.hasTicket(t) || !isPart(what)) {
            return BAD;
        }
        if (!now.isTicketIn(t)) {
            return STATE;
        }
        int left = Integer.bitCount(now.ticketsIn());
        return part(now.amountIn(), left * left, what);
    }

    public long mean(int p, int what) {
        if (!now.hasPerson(p) || !isPart(what)) {
            return BAD;
        }
        int sum = rest.meanSum(now, p);
        return part(sum, rest.meanParts(), what);
    }

    public long luck(int p, int v, int what) {
        if (!now.hasPerson(p) || !isEnd(v) || !isPart(what)) {
            return BAD;
        }
        rest.spread(now, p);
        return part(rest.waysNoLess(p, v - now.purses[p]), rest.allWays(), what);
    }

    public long solid(int what) {
        if (!isPart(what)) {
            return BAD;
        }
        rest.spreadAll(now);
        return part(rest.waysSolid(now), rest.allWays(), what);
    }

    public int ends(int p, int what) {
        if (!now.hasPerson(p) || !within(what, 0, 2)) {
            return BAD;
        }
        rest.spread(now, p);
        switch (what) {
            case 0: return SHIFT + now.purses[p] + rest.leastGain(p);
            case 1: return SHIFT + now.purses[p] + rest.mostGain(p);
            default: return rest.firstToMost(p);
        }
    }

    // ---- what is best

    public int fee(int t, int v) {
        if (!now.hasTicket(t) || !isEnd(v)) {
            return BAD;
        }
        if (!now.isTicketIn(t)) {
            return STATE;
        }
        int owner = now.trait(t, OWNER);
        trial.copy(now);
        for (int f = 0; f <= FEE_MOST; f++) {
            trial.setTrait(t, FEE, f);
            int sum = rest.meanSum(trial, owner);
            if (sum >= v * rest.meanParts()) {
                return f;
            }
        }
        return NONE;
    }

    public int kind(int t) {
        if (!now.hasTicket(t)) {
            return BAD;
        }
        if (!now.isTicketIn(t)) {
            return STATE;
        }
        int owner = now.trait(t, OWNER);
        trial.copy(now);
        int best = WHOLE;
        int most = BELOW_ALL;
        for (int kind = WHOLE; kind <= INSURED; kind++) {
            trial.setTrait(t, KIND, kind);
            int sum = rest.meanSum(trial, owner);
            if (sum > most) {
                most = sum;
                best = kind;
            }
        }
        return best;
    }

    public int buy(int p) {
        if (!now.hasPerson(p)) {
            return BAD;
        }
        int best = NONE;
        int most = rest.meanSum(now, p);
        for (int t = 0; t < now.tickets; t++) {
            if (now.isTicketIn(t)) {
                trial.copy(now);
                trial.setTrait(t, OWNER, p);
                int sum = rest.meanSum(trial, p);
                if (sum > most) {
                    most = sum;
                    best = t;
                }
            }
        }
        return best;
    }

    public int cap(int k, int p, int v) {
        if (!now.hasPrize(k) || !now.hasPerson(p) || !within(v, 0, END_MOST)) {
            return BAD;
        }
        if (!now.isPrizeIn(k)) {
            return STATE;
        }
        rest.spread(now, p);
        rest.findBeside(p, k);
        int ahead = now.purses[p] + rest.mostByFees(p);
        // An insured TICKET can bring more by a PRIZE of 0 than by one of 1: so no bound is sought by halves.
        for (int much = MUCH_MOST; much >= 0; much--) {
            if (ahead + rest.mostByPrizesWith(now, p, much) <= v) {
                return much;
            }
        }
        return NONE;
    }

    // ---- who drew what

    public int see(int p, int v) {
        if (!now.hasPerson(p) || !isEnd(v)) {
            return BAD;
        }
        return now.noteSeen(p, v) ? now.seen : FULL;
    }

    public int forget(int n) {
        if (!within(n, 0, now.seen)) {
            return BAD;
        }
        int were = now.seen;
        now.seen = n;
        return were;
    }

    public int fits(int what) {
        int t = what - 10;
        boolean ofTicket = what >= 10 && now.hasTicket(t);
        if (what != 0 && !ofTicket) {
            return BAD;
        }
        if (ofTicket && !now.isTicketIn(t)) {
            return 1 << now.drew[t];
        }
        rest.spreadAll(now);
        rest.tally(now);
        return ofTicket ? rest.prizesOf(t) : rest.fitting;
    }

    public int ask(int what) {
        if (!within(what, 0, 1)) {
            return BAD;
        }
        rest.spreadAll(now);
        rest.tally(now);
        int best = NONE;
        int fewest = rest.fitting;
        for (int t = 0; t < now.tickets; t++) {
            if (now.isTicketIn(t) && rest.worstOf(t) < fewest) {
                fewest = rest.worstOf(t);
                best = t;
            }
        }
        return best == NONE || what == 0 ? best : fewest;
    }

    // ---- by a seed

    public int drift(int seed, int p) {
        if (!now.hasPerson(p)) {
            return BAD;
        }
        trial.copy(now);
        int turned = seed;
        for (int left = Integer.bitCount(now.ticketsIn()); left > 0; left--) {
            turned = turnSeed(turned);
            int t = bitByOrder(trial.ticketsIn(), seedBits(turned) % left);
            turned = turnSeed(turned);
            int k = bitByOrder(trial.prizesIn(), seedBits(turned) % left);
            trial.pull(t, k);
        }
        return SHIFT + trial.purses[p];
    }

    // ---- images, sheets

    public int keep(int k) {
        if (!within(k, 0, IMAGES_MOST - 1)) {
            return BAD;
        }
        int was = kept[k];
        images[k].copy(now);
        kept[k] = 1;
        return was;
    }

    public int back(int k) {
        if (!within(k, 0, IMAGES_MOST - 1)) {
            return BAD;
        }
        if (kept[k] == 0) {
            return STATE;
        }
        now.copy(images[k]);
        return now.daysGone();
    }

    public int sheet(int k, int lane, int n) {
        if (!isSheet(k) || !Sheet.isLane(lane) || n > CELLS_MOST) {
            return BAD;
        }
        if (n < 0) {
            return -10 - MACHINE_SIZE;
        }
        sheets[k].renew(lane, n);
        return 1;
    }

    public int lay(int k, int i, int v) {
        if (!isSheet(k)) {
            return BAD;
        }
        int found = sheets[k].faultAt(i);
        if (found != NO_FAULT) {
            return -10 - found;
        }
        sheets[k].setCell(i, v);
        return 1;
    }

    public int read(int k, int lane, int f, int n) {
        if (!isSheet(k) || !Sheet.isLane(lane) || !within(n, 0, READS_MOST)) {
            return BAD;
        }
        Sheet from = sheets[k];
        trial.copy(now);
        int drawn = 0;
        int found = NO_FAULT;
        for (int i = 0; i < n && found == NO_FAULT; i++) {
            found = from.faultAtPair(lane, f + 2 * i);
            if (found == NO_FAULT) {
                int t = from.cells[f + 2 * i];
                int prize = from.cells[f + 2 * i + 1];
                if (trial.refusal(t, prize) != 0) {
                    return -20 - i;
                }
                trial.pull(t, prize);
                drawn++;
            }
        }
        now.copy(trial);
        tornFault = found;
        return drawn;
    }

    public int torn() {
        return tornFault;
    }

    public int count(int what) {
        switch (what) {
            case 0: return SHIFT + now.allPurses();
            case 1: return now.seen;
            case 2: return kept[0] + kept[1];
            case 3: return tape.length;
            case 4: return sheets[0].size;
            default: return BAD;
        }
    }

    // ---- numbers

    private static boolean within(int v, int least, int most) {
        return v >= least && v <= most;
    }

    private static boolean isEnd(int v) {
        return within(v, -END_MOST, END_MOST);
    }

    private static boolean isPart(int what) {
        return within(what, 0, 1);
    }

    private static boolean isSheet(int k) {
        return within(k, 0, SHEETS_MOST - 1);
    }

    /** Of a fraction in lowest terms the numerator (what 0) or the denominator. */
    private static long part(int numerator, int denominator, int what) {
        int divisor = commonDivisor(Math.abs(numerator), denominator);
        if (divisor == 0) {
            return 0;
        }
        return (what == 0 ? numerator : denominator) / divisor;
    }

    private static int commonDivisor(int a, int b) {
        int x = a;
        int y = b;
        // Two ints need fewer than 64 steps.
        for (int i = 0; i < 64 && y != 0; i++) {
            int r = x % y;
            x = y;
            y = r;
        }
        return x;
    }

    private static int turnSeed(int seed) {
        return seed * 1103515245 + 12345;
    }

    private static int seedBits(int seed) {
        return (seed >>> 16) & 0x7fff;
    }

    /** The place of the n-th bit (from 0) that is set among the lowest ones; 0 if there is none. */
    private static int bitByOrder(int bits, int n) {
        int ahead = 0;
        for (int place = 0; place < MOST; place++) {
            if ((bits >> place & 1) == 1) {
                if (ahead == n) {
                    return place;
                }
                ahead++;
            }
        }
        return 0;
    }

    /** PEOPLE, TICKETS, PRIZES and what was SEEN: all that an IMAGE keeps. */
    private static final class Wheel {
        int people = 0;
        int tickets = 0;
        int seen = 0;
        final int[] purses = new int[MOST];
        /** KIND, OWNER, OTHER, FEE of each TICKET. */
        final int[] traits = new int[MOST * TRAITS];
        /** The PRIZE of each TICKET, NONE in THE WHEEL. */
        final int[] drew = new int[MOST];
        final int[] amounts = new int[MOST];
        /** The TICKET of each PRIZE, NONE in THE WHEEL. */
        final int[] drawnBy = new int[MOST];
        final int[] seenOf = new int[SEEN_MOST];
        final int[] seenEnd = new int[SEEN_MOST];

        void clear() {
            people = 0;
            tickets = 0;
            seen = 0;
            Arrays.fill(amounts, 0);
            Arrays.fill(drew, NONE);
            Arrays.fill(drawnBy, NONE);
        }

        void copy(Wheel from) {
            people = from.people;
            tickets = from.tickets;
            seen = from.seen;
            System.arraycopy(from.purses, 0, purses, 0, MOST);
            System.arraycopy(from.traits, 0, traits, 0, MOST * TRAITS);
            System.arraycopy(from.drew, 0, drew, 0, MOST);
            System.arraycopy(from.amounts, 0, amounts, 0, MOST);
            System.arraycopy(from.drawnBy, 0, drawnBy, 0, MOST);
            System.arraycopy(from.seenOf, 0, seenOf, 0, SEEN_MOST);
            System.arraycopy(from.seenEnd, 0, seenEnd, 0, SEEN_MOST);
        }

        void addPerson(int purse) {
            if (people < MOST) {
                purses[people] = purse;
                people++;
            }
        }

        void addTicket(int kind, int owner, int other, int fee) {
            if (tickets < MOST) {
                setTrait(tickets, KIND, kind);
                setTrait(tickets, OWNER, owner);
                setTrait(tickets, OTHER, other);
                setTrait(tickets, FEE, fee);
                tickets++;
            }
        }

        boolean noteSeen(int p, int end) {
            if (seen >= SEEN_MOST) {
                return false;
            }
            seenOf[seen] = p;
            seenEnd[seen] = end;
            seen++;
            return true;
        }

        boolean hasPerson(int p) {
            return p >= 0 && p < people;
        }

        boolean hasTicket(int t) {
            return t >= 0 && t < tickets;
        }

        /** There are as many PRIZES as TICKETS. */
        boolean hasPrize(int k) {
            return k >= 0 && k < tickets;
        }

        boolean isTicketIn(int t) {
            return hasTicket(t) && drew[t] == NONE;
        }

        boolean isPrizeIn(int k) {
            return hasPrize(k) && drawnBy[k] == NONE;
        }

        int trait(int t, int what) {
            return traits[TRAITS * t + what];
        }

        void setTrait(int t, int what, int v) {
            traits[TRAITS * t + what] = v;
        }

        boolean takesTrait(int what, int v) {
            switch (what) {
                case KIND: return within(v, WHOLE, INSURED);
                case OWNER: return hasPerson(v);
                case OTHER: return hasPerson(v);
                case FEE: return within(v, 0, FEE_MOST);
                default: return false;
            }
        }

        boolean lacksPeople() {
            for (int t = 0; t < tickets; t++) {
                if (!hasPerson(trait(t, OWNER)) || !hasPerson(trait(t, OTHER))) {
                    return true;
                }
            }
            return false;
        }

        int ticketsWith(int what, int v) {
            int bits = 0;
            for (int t = 0; t < tickets; t++) {
                if (trait(t, what) == v) {
                    bits |= 1 << t;
                }
            }
            return bits;
        }

        int ticketsIn() {
            int bits = 0;
            for (int t = 0; t < tickets; t++) {
                if (isTicketIn(t)) {
                    bits |= 1 << t;
                }
            }
            return bits;
        }

        int prizesIn() {
            int bits = 0;
            for (int k = 0; k < tickets; k++) {
                if (isPrizeIn(k)) {
                    bits |= 1 << k;
                }
            }
            return bits;
        }

        int daysGone() {
            return tickets - Integer.bitCount(ticketsIn());
        }

        int amountIn() {
            int sum = 0;
            for (int k = 0; k < tickets; k++) {
                if (isPrizeIn(k)) {
                    sum += amounts[k];
                }
            }
            return sum;
        }

        int allPurses() {
            int sum = 0;
            for (int p = 0; p < people; p++) {
                sum += purses[p];
            }
            return sum;
        }

        /** What draw() answers to a draw that can not be; 0 if it can. */
        int refusal(int t, int k) {
            if (!hasTicket(t) || !hasPrize(k)) {
                return BAD;
            }
            return isTicketIn(t) && isPrizeIn(k) ? 0 : STATE;
        }

        /** A DRAW of what refusal() lets pass. */
        void pull(int t, int k) {
            for (int p = 0; p < people; p++) {
                for (int in = 0; in < tickets; in++) {
                    if (isTicketIn(in)) {
                        purses[p] += feeFor(in, p);
                    }
                }
                purses[p] += shareFor(t, amounts[k], p);
            }
            drew[t] = k;
            drawnBy[k] = t;
        }

        /** What a DAY of a TICKET in THE WHEEL brings a PERSON by its FEE. */
        int feeFor(int t, int p) {
            int kind = trait(t, KIND);
            int toOwner = kind == HIRED ? trait(t, FEE) : kind == INSURED ? -trait(t, FEE) : 0;
            return sharedOut(t, p, toOwner, -toOwner);
        }

        /** What a PERSON has when a TICKET draws a PRIZE of so much. */
        int shareFor(int t, int much, int p) {
            int insurance = much == 0 ? 5 * trait(t, FEE) : 0;
            switch (trait(t, KIND)) {
                case HIRED: return sharedOut(t, p, 0, much);
                case SPLIT: return sharedOut(t, p, much - much / 2, much / 2);
                case INSURED: return sharedOut(t, p, much + insurance, -insurance);
                default: return sharedOut(t, p, much, 0);
            }
        }

        private int sharedOut(int t, int p, int toOwner, int toOther) {
            return (trait(t, OWNER) == p ? toOwner : 0) + (trait(t, OTHER) == p ? toOther : 0);
        }
    }

    /**
     * THE REST. The fees hang on the order of TICKETS alone, the prizes on the pairing of TICKETS with
     * PRIZES alone, and each order goes with each pairing: so two rows of at most 24 sums tell all ways.
     */
    private static final class Rest {
        /** How many TICKETS are in THE WHEEL. */
        private int left = 0;
        /** How many orders they have, and how many pairings. */
        private int orders = 1;
        private final int[] tickets = new int[MOST];
        private final int[] prizes = new int[MOST];
        /** By place in tickets: what a day brings the PERSON that was weighed. */
        private final int[] fees = new int[MOST];
        /** By place in tickets and in prizes: what this pair brings him. */
        private final int[] shares = new int[MOST * MOST];
        /** By PERSON and row of ORDERS: what he has by fees, by prizes. */
        private final int[] byFees = new int[MOST * ORDERS_MOST];
        private final int[] byPrizes = new int[MOST * ORDERS_MOST];
        /** By place in tickets: the most that all others bring when this one draws a certain PRIZE. */
        private final int[] beside = new int[MOST];
        /** By TICKET and PRIZE: ways that fit what is SEEN. */
        private final int[] pairs = new int[MOST * MOST];
        int fitting = 0;

        int allWays() {
            return orders * orders;
        }

        private void look(Wheel wheel) {
            left = 0;
            int found = 0;
            for (int i = 0; i < MOST; i++) {
                if (wheel.isTicketIn(i)) {
                    tickets[left] = i;
                    left++;
                }
                if (wheel.isPrizeIn(i)) {
                    prizes[found] = i;
                    found++;
                }
            }
            orders = 1;
            for (int n = 2; n <= left; n++) {
                orders *= n;
            }
        }

        private void weigh(Wheel wheel, int p) {
            look(wheel);
            for (int i = 0; i < left; i++) {
                fees[i] = wheel.feeFor(tickets[i], p);
                for (int j = 0; j < left; j++) {
                    shares[MOST * i + j] = wheel.shareFor(tickets[i], wheel.amounts[prizes[j]], p);
                }
            }
        }

        /** THE END's mean times meanParts(): a TICKET is in for (left + 1) / 2 days in the mean. */
        int meanSum(Wheel wheel, int p) {
            weigh(wheel, p);
            int sum = wheel.purses[p] * meanParts();
            for (int i = 0; i < left; i++) {
                sum += fees[i] * left * (left + 1);
                for (int j = 0; j < left; j++) {
                    sum += 2 * shares[MOST * i + j];
                }
            }
            return sum;
        }

        int meanParts() {
            return left == 0 ? 1 : 2 * left;
        }

        void spreadAll(Wheel wheel) {
            look(wheel);
            for (int p = 0; p < wheel.people; p++) {
                spread(wheel, p);
            }
        }

        void spread(Wheel wheel, int p) {
            weigh(wheel, p);
            for (int row = 0; row < orders; row++) {
                int paid = 0;
                int had = 0;
                for (int i = 0; i < left; i++) {
                    int place = ORDERS[MOST * row + i];
                    paid += (i + 1) * fees[place];
                    had += shares[MOST * i + place];
                }
                byFees[ORDERS_MOST * p + row] = paid;
                byPrizes[ORDERS_MOST * p + row] = had;
            }
        }

        private int gain(int p, int order, int pairing) {
            return byFees[ORDERS_MOST * p + order] + byPrizes[ORDERS_MOST * p + pairing];
        }

        int waysNoLess(int p, int least) {
            int ways = 0;
            for (int order = 0; order < orders; order++) {
                for (int pairing = 0; pairing < orders; pairing++) {
                    if (gain(p, order, pairing) >= least) {
                        ways++;
                    }
                }
            }
            return ways;
        }

        int waysSolid(Wheel wheel) {
            int ways = 0;
            for (int order = 0; order < orders; order++) {
                for (int pairing = 0; pairing < orders; pairing++) {
                    if (isSolid(wheel, order, pairing)) {
                        ways++;
                    }
                }
            }
            return ways;
        }

        private boolean isSolid(Wheel wheel, int order, int pairing) {
            for (int p = 0; p < wheel.people; p++) {
                if (wheel.purses[p] + gain(p, order, pairing) < 0) {
                    return false;
                }
            }
            return true;
        }

        int leastGain(int p) {
            return leastOf(byFees, p) + leastOf(byPrizes, p);
        }

        int mostGain(int p) {
            return mostOf(byFees, p) + mostOf(byPrizes, p);
        }

        int mostByFees(int p) {
            return mostOf(byFees, p);
        }

        private int leastOf(int[] sums, int p) {
            int least = sums[ORDERS_MOST * p];
            for (int row = 1; row < orders; row++) {
                least = Math.min(least, sums[ORDERS_MOST * p + row]);
            }
            return least;
        }

        private int mostOf(int[] sums, int p) {
            int most = sums[ORDERS_MOST * p];
            for (int row = 1; row < orders; row++) {
                most = Math.max(most, sums[ORDERS_MOST * p + row]);
            }
            return most;
        }

        /** TICKETS (bits) that come first in an order by which a PERSON has most. */
        int firstToMost(int p) {
            int most = mostByFees(p);
            int bits = 0;
            for (int row = 0; row < orders && left > 0; row++) {
                if (byFees[ORDERS_MOST * p + row] == most) {
                    bits |= 1 << tickets[ORDERS[MOST * row]];
                }
            }
            return bits;
        }

        /** For mostByPrizesWith(): what all others bring the PERSON that was spread last, beside a PRIZE. */
        void findBeside(int p, int prize) {
            Arrays.fill(beside, BELOW_ALL);
            for (int row = 0; row < orders; row++) {
                for (int i = 0; i < left; i++) {
                    int place = ORDERS[MOST * row + i];
                    if (prizes[place] == prize) {
                        int others = byPrizes[ORDERS_MOST * p + row] - shares[MOST * i + place];
                        beside[i] = Math.max(beside[i], others);
                    }
                }
            }
        }

        /** The most that a PERSON can have by prizes when the PRIZE of findBeside() is of so much. */
        int mostByPrizesWith(Wheel wheel, int p, int much) {
            int most = BELOW_ALL;
            for (int i = 0; i < left; i++) {
                most = Math.max(most, beside[i] + wheel.shareFor(tickets[i], much, p));
            }
            return most;
        }

        /** Behind spreadAll(): counts the ways that fit what is SEEN, in all and by pairs. */
        void tally(Wheel wheel) {
            fitting = 0;
            Arrays.fill(pairs, 0);
            for (int pairing = 0; pairing < orders; pairing++) {
                int ways = ordersThatFit(wheel, pairing);
                fitting += ways;
                for (int i = 0; i < left; i++) {
                    pairs[MOST * tickets[i] + prizes[ORDERS[MOST * pairing + i]]] += ways;
                }
            }
        }

        private int ordersThatFit(Wheel wheel, int pairing) {
            int ways = 0;
            for (int order = 0; order < orders; order++) {
                if (isAsSeen(wheel, order, pairing)) {
                    ways++;
                }
            }
            return ways;
        }

        private boolean isAsSeen(Wheel wheel, int order, int pairing) {
            for (int i = 0; i < wheel.seen; i++) {
                int p = wheel.seenOf[i];
                if (wheel.purses[p] + gain(p, order, pairing) != wheel.seenEnd[i]) {
                    return false;
                }
            }
            return true;
        }

        /** PRIZES (bits) that a TICKET in THE WHEEL draws by some way that fits. */
        int prizesOf(int t) {
            int bits = 0;
            for (int k = 0; k < MOST; k++) {
                if (pairs[MOST * t + k] > 0) {
                    bits |= 1 << k;
                }
            }
            return bits;
        }

        /** How many ways that fit are left at the worst, once it is known what a TICKET drew. */
        int worstOf(int t) {
            int worst = 0;
            for (int k = 0; k < MOST; k++) {
                worst = Math.max(worst, pairs[MOST * t + k]);
            }
            return worst;
        }
    }

    /** THE TAPE, read TOKEN by TOKEN. */
    private static final class Tape {
        private final byte[] bytes = new byte[TAPE_MOST];
        int length = 0;
        private int place = 0;
        /** The TOKEN that was read last: of which sort, its first byte, of a NUMBER its value. */
        int token = TOKEN_END;
        int start = 0;
        int value = 0;

        boolean put(int c) {
            if (length >= TAPE_MOST) {
                return false;
            }
            bytes[length] = (byte) c;
            length++;
            return true;
        }

        void rewind() {
            place = 0;
        }

        /** Takes the next TOKEN, as long as may be; a byte that begins none is a TOKEN_WRONG too. */
        void step() {
            passBlanks();
            start = place;
            if (place >= length) {
                token = TOKEN_END;
            } else if (bytes[place] == ';') {
                token = TOKEN_STOP;
                place++;
            } else {
                passLetters();
                token = place > start ? TOKEN_NAME : numberToken();
            }
        }

        private void passBlanks() {
            while (place < length && bytes[place] == ' ') {
                place++;
            }
        }

        private void passLetters() {
            while (place < length && bytes[place] >= 'a' && bytes[place] <= 'z') {
                place++;
            }
        }

        private int numberToken() {
            value = 0;
            while (place < length && bytes[place] >= '0' && bytes[place] <= '9') {
                value = value * 10 + bytes[place] - '0';
                place++;
            }
            int figures = place - start;
            return figures == 1 || figures == 2 ? TOKEN_NUMBER : TOKEN_WRONG;
        }

        /** Whether the NAME that was read last is this word. */
        boolean isWord(String word) {
            if (place - start != word.length()) {
                return false;
            }
            for (int i = 0; i < word.length(); i++) {
                if (bytes[start + i] != word.charAt(i)) {
                    return false;
                }
            }
            return true;
        }
    }

    /** Reads a text off THE TAPE; a line that tells a TICKET has the number of its KIND. */
    private static final class Teller {
        /** The FAULT of the text that was read last, and its place. */
        int found = NO_FAULT;
        private int foundAt = 0;
        private final int[] numbers = new int[3];
        private int prizes = 0;
        private int draws = 0;
        private final int[] drawnTickets = new int[MOST];
        private final int[] drawnPrizes = new int[MOST];

        /** How many lines the text has, or -10 less the place of its FAULT: the wheel is of no use then. */
        int tell(Tape tape, Wheel wheel) {
            tape.rewind();
            wheel.clear();
            found = NO_FAULT;
            prizes = 0;
            draws = 0;
            int lines = 0;
            // A line has more than one byte, so there are fewer lines than bytes.
            while (lines < TAPE_MOST && takeLine(tape, wheel)) {
                lines++;
            }
            boolean isTold = found == NO_FAULT && tellBehindAll(tape.length, wheel);
            return isTold ? lines : -10 - foundAt;
        }

        /** Answers false, so that a line ends with it. */
        private boolean blame(int fault, int place) {
            found = fault;
            foundAt = place;
            return false;
        }

        private boolean takeLine(Tape tape, Wheel wheel) {
            tape.step();
            if (tape.token == TOKEN_END) {
                return false;
            }
            if (tape.token == TOKEN_WRONG) {
                return blame(1, tape.start);
            }
            int line = tape.token == TOKEN_NAME ? lineOf(tape) : NONE;
            if (line == NONE) {
                return blame(2, tape.start);
            }
            if (toldAlready(line, wheel) >= MOST) {
                return blame(5, tape.start);
            }
            if (!takeNumbers(tape, line) || !take(tape, TOKEN_STOP)) {
                return false;
            }
            put(line, wheel);
            return true;
        }

        private boolean takeNumbers(Tape tape, int line) {
            for (int i = 0; i < howManyNumbers(line); i++) {
                if (!take(tape, TOKEN_NUMBER)) {
                    return false;
                }
                if (tape.value > boundOf(line, i)) {
                    return blame(3, tape.start);
                }
                numbers[i] = tape.value;
            }
            return true;
        }

        private boolean take(Tape tape, int token) {
            tape.step();
            if (tape.token == TOKEN_WRONG) {
                return blame(1, tape.start);
            }
            return tape.token == token || blame(2, tape.start);
        }

        private int toldAlready(int line, Wheel wheel) {
            switch (line) {
                case PERSON_LINE: return wheel.people;
                case PRIZE_LINE: return prizes;
                case DRAW_LINE: return draws;
                default: return wheel.tickets;
            }
        }

        private void put(int line, Wheel wheel) {
            if (line == PERSON_LINE) {
                wheel.addPerson(numbers[0]);
            } else if (line == PRIZE_LINE && prizes < MOST) {
                wheel.amounts[prizes] = numbers[0];
                prizes++;
            } else if (line == DRAW_LINE && draws < MOST) {
                drawnTickets[draws] = numbers[0];
                drawnPrizes[draws] = numbers[1];
                draws++;
            } else if (within(line, WHOLE, INSURED)) {
                wheel.addTicket(line, numbers[0], numbers[1], numbers[2]);
            }
        }

        private boolean tellBehindAll(int length, Wheel wheel) {
            if (wheel.lacksPeople()) {
                return blame(6, length);
            }
            if (prizes > wheel.tickets) {
                return blame(7, length);
            }
            for (int i = 0; i < draws; i++) {
                if (wheel.refusal(drawnTickets[i], drawnPrizes[i]) != 0) {
                    return blame(8, length);
                }
                wheel.pull(drawnTickets[i], drawnPrizes[i]);
            }
            return true;
        }

        private static int lineOf(Tape tape) {
            for (int line = 0; line < LINES; line++) {
                if (tape.isWord(wordOf(line))) {
                    return line;
                }
            }
            return NONE;
        }

        private static String wordOf(int line) {
            switch (line) {
                case WHOLE: return "whole";
                case HIRED: return "hired";
                case SPLIT: return "split";
                case INSURED: return "insured";
                case PERSON_LINE: return "person";
                case PRIZE_LINE: return "prize";
                default: return "draw";
            }
        }

        private static int howManyNumbers(int line) {
            switch (line) {
                case PERSON_LINE: return 1;
                case PRIZE_LINE: return 1;
                case DRAW_LINE: return 2;
                default: return 3;
            }
        }

        private static int boundOf(int line, int i) {
            switch (line) {
                case PERSON_LINE: return MUCH_MOST;
                case PRIZE_LINE: return MUCH_MOST;
                case DRAW_LINE: return MOST - 1;
                default: return i == 2 ? FEE_MOST : MOST - 1;
            }
        }
    }

    /** A row of CELLS of a lane, or nothing; what the machine would find is found by asking first. */
    private static final class Sheet {
        private static final int BYTES = 0, SHORTS = 1, INTS = 2;
        /** How many CELLS; NONE: the SHEET is nothing. */
        int size = NONE;
        private int lane = BYTES;
        final int[] cells = new int[CELLS_MOST];

        static boolean isLane(int lane) {
            return within(lane, BYTES, INTS);
        }

        void renew(int newLane, int n) {
            lane = newLane;
            size = n;
            Arrays.fill(cells, 0);
        }

        void setCell(int i, int v) {
            cells[i] = lane == BYTES ? (byte) v : lane == SHORTS ? (short) v : v;
        }

        int faultAt(int i) {
            if (size == NONE) {
                return MACHINE_NULL;
            }
            return within(i, 0, size - 1) ? NO_FAULT : MACHINE_INDEX;
        }

        /** Also whether the lane is another: a SHEET is taken as of a lane only for a pair that is read of it. */
        int faultAtPair(int asked, int i) {
            if (size != NONE && asked != lane) {
                return MACHINE_CAST;
            }
            int first = faultAt(i);
            return first != NO_FAULT ? first : faultAt(i + 1);
        }
    }
}
