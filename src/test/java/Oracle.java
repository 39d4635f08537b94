import java.util.ArrayList;
import java.util.Arrays;
import java.util.LinkedHashMap;
import java.util.List;
import java.util.Map;

/**
 * The document once more, as slowly and as literally as can be: every way of THE REST is played to its end,
 * draw by draw. It shares no code with the class that it is held against.
 */
final class Oracle {
    static final int BAD = -1, STATE = -2, FULL = -3, NONE = -4;

    static final class Ticket {
        int kind, owner, other, fee;
        int drew = NONE;

        Ticket copy() {
            Ticket c = new Ticket();
            c.kind = kind;
            c.owner = owner;
            c.other = other;
            c.fee = fee;
            c.drew = drew;
            return c;
        }
    }

    static final class Prize {
        int much;
        int by = NONE;

        Prize copy() {
            Prize c = new Prize();
            c.much = much;
            c.by = by;
            return c;
        }
    }

    static final class World {
        final List<Integer> purses = new ArrayList<>();
        final List<Ticket> tickets = new ArrayList<>();
        final List<Prize> prizes = new ArrayList<>();
        final List<int[]> seen = new ArrayList<>();

        World copy() {
            World c = new World();
            c.purses.addAll(purses);
            for (Ticket t : tickets) {
                c.tickets.add(t.copy());
            }
            for (Prize k : prizes) {
                c.prizes.add(k.copy());
            }
            for (int[] s : seen) {
                c.seen.add(s.clone());
            }
            return c;
        }

        void pay(int from, int to, int much) {
            purses.set(from, purses.get(from) - much);
            purses.set(to, purses.get(to) + much);
        }

        void give(int to, int much) {
            purses.set(to, purses.get(to) + much);
        }

        int draw(int t, int k) {
            if (t < 0 || t >= tickets.size() || k < 0 || k >= prizes.size()) {
                return BAD;
            }
            if (tickets.get(t).drew != NONE || prizes.get(k).by != NONE) {
                return STATE;
            }
            for (Ticket in : tickets) {
                if (in.drew == NONE && in.kind == 1) {
                    pay(in.other, in.owner, in.fee);
                }
                if (in.drew == NONE && in.kind == 3) {
                    pay(in.owner, in.other, in.fee);
                }
            }
            Ticket ticket = tickets.get(t);
            Prize prize = prizes.get(k);
            int much = prize.much;
            if (ticket.kind == 0) {
                give(ticket.owner, much);
            } else if (ticket.kind == 1) {
                give(ticket.other, much);
            } else if (ticket.kind == 2) {
                int up = (int) Math.ceil(much / 2.0);
                give(ticket.owner, up);
                give(ticket.other, much - up);
            } else {
                give(ticket.owner, much);
                if (much == 0) {
                    pay(ticket.other, ticket.owner, 5 * ticket.fee);
                }
            }
            ticket.drew = k;
            prize.by = t;
            return much;
        }

        List<Integer> ticketsIn() {
            List<Integer> in = new ArrayList<>();
            for (int t = 0; t < tickets.size(); t++) {
                if (tickets.get(t).drew == NONE) {
                    in.add(t);
                }
            }
            return in;
        }

        List<Integer> prizesIn() {
            List<Integer> in = new ArrayList<>();
            for (int k = 0; k < prizes.size(); k++) {
                if (prizes.get(k).by == NONE) {
                    in.add(k);
                }
            }
            return in;
        }

        boolean asSeen() {
            for (int[] s : seen) {
                if (purses.get(s[0]) != s[1]) {
                    return false;
                }
            }
            return true;
        }
    }

    /** A way of THE REST at its end. */
    record Way(World end, int first) { }

    World now = new World();
    final World[] images = new World[2];
    final StringBuilder tape = new StringBuilder();
    final long[][] sheets = new long[4][];
    final int[] lanes = new int[4];
    int fault = 0;
    int torn = 0;

    static List<Way> rest(World w) {
        List<Way> ways = new ArrayList<>();
        play(w, NONE, ways);
        return ways;
    }

    private static void play(World w, int first, List<Way> ways) {
        if (w.ticketsIn().isEmpty()) {
            ways.add(new Way(w, first));
            return;
        }
        for (int t : w.ticketsIn()) {
            for (int k : w.prizesIn()) {
                World next = w.copy();
                next.draw(t, k);
                play(next, first == NONE ? t : first, ways);
            }
        }
    }

    boolean noPerson(int p) {
        return p < 0 || p >= now.purses.size();
    }

    boolean noTicket(int t) {
        return t < 0 || t >= now.tickets.size();
    }

    static long lowest(long numerator, long denominator, int what) {
        for (long d = Math.max(Math.abs(numerator), denominator); d > 1; d--) {
            if (numerator % d == 0 && denominator % d == 0) {
                return what == 0 ? numerator / d : denominator / d;
            }
        }
        return what == 0 ? numerator : denominator;
    }

    static int bits(List<Integer> places) {
        int bits = 0;
        for (int place : places) {
            bits |= 1 << place;
        }
        return bits;
    }

    // ---- the text

    int feed(int c) {
        if (c < 0 || c > 127) {
            return BAD;
        }
        if (tape.length() == 160) {
            return FULL;
        }
        tape.append((char) c);
        return tape.length();
    }

    int end(int n) {
        if (n < 0 || n > tape.length()) {
            return BAD;
        }
        int had = tape.length();
        tape.setLength(n);
        return had;
    }

    private static final class Refused extends Exception {
        private static final long serialVersionUID = 1L;
        final int fault, place;

        Refused(int fault, int place) {
            this.fault = fault;
            this.place = place;
        }
    }

    private String source;
    private int at, start;

    /** The next token; "" is the end. */
    private String token() throws Refused {
        while (at < source.length() && source.charAt(at) == ' ') {
            at++;
        }
        start = at;
        String behind = source.substring(at);
        String token = behind.replaceFirst("(?s)^([a-z]+|[0-9]+|;|).*$", "$1");
        if (token.isEmpty() && !behind.isEmpty() || token.matches("[0-9]{3,}")) {
            throw new Refused(1, start);
        }
        at += token.length();
        return token;
    }

    private int number(int most) throws Refused {
        String token = token();
        if (!token.matches("[0-9]+")) {
            throw new Refused(2, start);
        }
        int v = Integer.parseInt(token);
        if (v > most) {
            throw new Refused(3, start);
        }
        return v;
    }

    private static final Map<String, int[]> FORMS = new LinkedHashMap<>();

    static {
        FORMS.put("whole", new int[] {3, 3, 9});
        FORMS.put("hired", new int[] {3, 3, 9});
        FORMS.put("split", new int[] {3, 3, 9});
        FORMS.put("insured", new int[] {3, 3, 9});
        FORMS.put("person", new int[] {99});
        FORMS.put("prize", new int[] {99});
        FORMS.put("draw", new int[] {3, 3});
    }

    private World parse(int[] lines) throws Refused {
        World w = new World();
        List<Integer> prizes = new ArrayList<>();
        List<int[]> draws = new ArrayList<>();
        for (String name = token(); !name.isEmpty(); name = token()) {
            int[] form = FORMS.get(name);
            if (form == null) {
                throw new Refused(2, start);
            }
            int many = name.equals("person") ? w.purses.size() : name.equals("prize") ? prizes.size()
                : name.equals("draw") ? draws.size() : w.tickets.size();
            if (many == 4) {
                throw new Refused(5, start);
            }
            int[] n = new int[form.length];
            for (int i = 0; i < n.length; i++) {
                n[i] = number(form[i]);
            }
            if (!token().equals(";")) {
                throw new Refused(2, start);
            }
            lines[0]++;
            if (name.equals("person")) {
                w.purses.add(n[0]);
            } else if (name.equals("prize")) {
                prizes.add(n[0]);
            } else if (name.equals("draw")) {
                draws.add(n);
            } else {
                Ticket t = new Ticket();
                t.kind = new ArrayList<>(FORMS.keySet()).indexOf(name);
                t.owner = n[0];
                t.other = n[1];
                t.fee = n[2];
                w.tickets.add(t);
            }
        }
        behindAll(w, prizes, draws);
        return w;
    }

    private void behindAll(World w, List<Integer> prizes, List<int[]> draws) throws Refused {
        int length = source.length();
        for (Ticket t : w.tickets) {
            if (Math.max(t.owner, t.other) >= w.purses.size()) {
                throw new Refused(6, length);
            }
        }
        if (prizes.size() > w.tickets.size()) {
            throw new Refused(7, length);
        }
        for (int k = 0; k < w.tickets.size(); k++) {
            Prize prize = new Prize();
            prize.much = k < prizes.size() ? prizes.get(k) : 0;
            w.prizes.add(prize);
        }
        for (int[] d : draws) {
            if (w.draw(d[0], d[1]) < 0) {
                throw new Refused(8, length);
            }
        }
    }

    int text() {
        source = tape.toString();
        tape.setLength(0);
        at = 0;
        int[] lines = new int[1];
        try {
            now = parse(lines);
            fault = 0;
            Arrays.fill(images, null);
            return lines[0];
        } catch (Refused r) {
            fault = r.fault;
            return -10 - r.place;
        }
    }

    int fault() {
        return fault;
    }

    int rule(int what) {
        if (what == 0) {
            return now.purses.size();
        } else if (what == 1) {
            return now.tickets.size();
        } else if (what == 2) {
            return now.tickets.size() - now.ticketsIn().size();
        } else if (what == 3) {
            return bits(now.ticketsIn());
        } else if (what == 4) {
            return bits(now.prizesIn());
        }
        return what == 5 ? inAll() : BAD;
    }

    private int inAll() {
        int sum = 0;
        for (int k : now.prizesIn()) {
            sum += now.prizes.get(k).much;
        }
        return sum;
    }

    int person(int p, int what) {
        if (noPerson(p) || what < 0 || what > 2) {
            return BAD;
        }
        if (what == 0) {
            return 10000 + now.purses.get(p);
        }
        List<Integer> his = new ArrayList<>();
        for (int t = 0; t < now.tickets.size(); t++) {
            Ticket ticket = now.tickets.get(t);
            if (p == (what == 1 ? ticket.owner : ticket.other)) {
                his.add(t);
            }
        }
        return bits(his);
    }

    int ticket(int t, int what) {
        if (noTicket(t) || what < 0 || what > 4) {
            return BAD;
        }
        Ticket k = now.tickets.get(t);
        return new int[] {k.kind, k.owner, k.other, k.fee, k.drew}[what];
    }

    int prize(int k, int what) {
        if (noTicket(k) || what < 0 || what > 1) {
            return BAD;
        }
        return what == 0 ? now.prizes.get(k).much : now.prizes.get(k).by;
    }

    // ---- what is changed

    int sign(int t, int what, int v) {
        if (noTicket(t) || what < 0 || what > 3) {
            return BAD;
        }
        if (what == 0 && (v < 0 || v > 3) || (what == 1 || what == 2) && noPerson(v) || what == 3 && (v < 0 || v > 9)) {
            return BAD;
        }
        Ticket k = now.tickets.get(t);
        if (k.drew != NONE) {
            return STATE;
        }
        int was = ticket(t, what);
        if (what == 0) {
            k.kind = v;
        } else if (what == 1) {
            k.owner = v;
        } else if (what == 2) {
            k.other = v;
        } else {
            k.fee = v;
        }
        return was;
    }

    int fill(int p, int v) {
        if (noPerson(p) || v < 0 || v > 99) {
            return BAD;
        }
        return 10000 + now.purses.set(p, v);
    }

    int promise(int k, int v) {
        if (noTicket(k) || v < 0 || v > 99) {
            return BAD;
        }
        if (now.prizes.get(k).by != NONE) {
            return STATE;
        }
        int was = now.prizes.get(k).much;
        now.prizes.get(k).much = v;
        return was;
    }

    int draw(int t, int k) {
        return now.draw(t, k);
    }

    // ---- what it is worth

    long worth(int what) {
        if (what < 0 || what > 1) {
            return BAD;
        }
        return now.prizesIn().isEmpty() ? NONE : lowest(inAll(), now.prizesIn().size(), what);
    }

    long day(int t, int what) {
        if (noTicket(t) || what < 0 || what > 1) {
            return BAD;
        }
        if (now.tickets.get(t).drew != NONE) {
            return STATE;
        }
        long sum = 0;
        long ways = 0;
        for (int drawn : now.ticketsIn()) {
            for (int k : now.prizesIn()) {
                ways++;
                sum += drawn == t ? now.prizes.get(k).much : 0;
            }
        }
        return lowest(sum, ways, what);
    }

    /** The sum of THE END over all ways: their number is the same for one wheel. */
    private static long sumOfEnds(World w, int p) {
        long sum = 0;
        for (Way way : rest(w)) {
            sum += way.end.purses.get(p);
        }
        return sum;
    }

    long mean(int p, int what) {
        if (noPerson(p) || what < 0 || what > 1) {
            return BAD;
        }
        return lowest(sumOfEnds(now, p), rest(now).size(), what);
    }

    long luck(int p, int v, int what) {
        if (noPerson(p) || v < -999 || v > 999 || what < 0 || what > 1) {
            return BAD;
        }
        List<Way> ways = rest(now);
        return lowest(ways.stream().filter(w -> w.end.purses.get(p) >= v).count(), ways.size(), what);
    }

    long solid(int what) {
        if (what < 0 || what > 1) {
            return BAD;
        }
        List<Way> ways = rest(now);
        return lowest(ways.stream().filter(w -> w.end.purses.stream().allMatch(x -> x >= 0)).count(), ways.size(), what);
    }

    int ends(int p, int what) {
        if (noPerson(p) || what < 0 || what > 2) {
            return BAD;
        }
        List<Way> ways = rest(now);
        int least = ways.stream().mapToInt(w -> w.end.purses.get(p)).min().getAsInt();
        int most = mostEnd(now, p);
        if (what < 2) {
            return 10000 + (what == 0 ? least : most);
        }
        int bits = 0;
        for (Way w : ways) {
            if (w.end.purses.get(p) == most && w.first != NONE) {
                bits |= 1 << w.first;
            }
        }
        return bits;
    }

    private static int mostEnd(World w, int p) {
        return rest(w).stream().mapToInt(way -> way.end.purses.get(p)).max().getAsInt();
    }

    // ---- what is best

    int fee(int t, int v) {
        if (noTicket(t) || v < -999 || v > 999) {
            return BAD;
        }
        if (now.tickets.get(t).drew != NONE) {
            return STATE;
        }
        long ways = rest(now).size();
        for (int f = 0; f < 10; f++) {
            World w = now.copy();
            w.tickets.get(t).fee = f;
            if (sumOfEnds(w, w.tickets.get(t).owner) >= v * ways) {
                return f;
            }
        }
        return NONE;
    }

    int kind(int t) {
        if (noTicket(t)) {
            return BAD;
        }
        if (now.tickets.get(t).drew != NONE) {
            return STATE;
        }
        long[] sums = new long[4];
        for (int kind = 0; kind < 4; kind++) {
            World w = now.copy();
            w.tickets.get(t).kind = kind;
            sums[kind] = sumOfEnds(w, w.tickets.get(t).owner);
        }
        long most = Arrays.stream(sums).max().getAsLong();
        for (int kind = 0; kind < 3; kind++) {
            if (sums[kind] == most) {
                return kind;
            }
        }
        return 3;
    }

    int buy(int p) {
        if (noPerson(p)) {
            return BAD;
        }
        long most = sumOfEnds(now, p);
        int best = NONE;
        for (int t : now.ticketsIn()) {
            World w = now.copy();
            w.tickets.get(t).owner = p;
            long sum = sumOfEnds(w, p);
            if (sum > most) {
                most = sum;
                best = t;
            }
        }
        return best;
    }

    int cap(int k, int p, int v) {
        if (noTicket(k) || noPerson(p) || v < 0 || v > 999) {
            return BAD;
        }
        if (now.prizes.get(k).by != NONE) {
            return STATE;
        }
        for (int much = 99; much >= 0; much--) {
            World w = now.copy();
            w.prizes.get(k).much = much;
            if (mostEnd(w, p) <= v) {
                return much;
            }
        }
        return NONE;
    }

    // ---- who drew what

    int see(int p, int v) {
        if (noPerson(p) || v < -999 || v > 999) {
            return BAD;
        }
        if (now.seen.size() == 6) {
            return FULL;
        }
        now.seen.add(new int[] {p, v});
        return now.seen.size();
    }

    int forget(int n) {
        if (n < 0 || n > now.seen.size()) {
            return BAD;
        }
        int were = now.seen.size();
        now.seen.subList(n, were).clear();
        return were;
    }

    private List<Way> fitting() {
        List<Way> ways = rest(now);
        ways.removeIf(w -> !w.end.asSeen());
        return ways;
    }

    int fits(int what) {
        if (what == 0) {
            return fitting().size();
        }
        if (what < 10 || noTicket(what - 10)) {
            return BAD;
        }
        int t = what - 10;
        if (now.tickets.get(t).drew != NONE) {
            return 1 << now.tickets.get(t).drew;
        }
        int bits = 0;
        for (Way w : fitting()) {
            bits |= 1 << w.end.tickets.get(t).drew;
        }
        return bits;
    }

    int ask(int what) {
        if (what < 0 || what > 1) {
            return BAD;
        }
        List<Way> ways = fitting();
        int best = NONE;
        int fewest = ways.size();
        for (int t = 0; t < now.tickets.size(); t++) {
            int worst = 0;
            for (int k = 0; k < now.tickets.size(); k++) {
                int left = 0;
                for (Way w : ways) {
                    left += w.end.tickets.get(t).drew == k ? 1 : 0;
                }
                worst = Math.max(worst, left);
            }
            if (worst < fewest) {
                fewest = worst;
                best = t;
            }
        }
        return best == NONE ? NONE : what == 0 ? best : fewest;
    }

    // ---- by a seed

    int drift(int seed, int p) {
        if (noPerson(p)) {
            return BAD;
        }
        World w = now.copy();
        long s = seed;
        while (!w.ticketsIn().isEmpty()) {
            s = (s * 1103515245L + 12345L) & 0xffffffffL;
            int t = w.ticketsIn().get((int) ((s % 0x80000000L) / 65536 % w.ticketsIn().size()));
            s = (s * 1103515245L + 12345L) & 0xffffffffL;
            int k = w.prizesIn().get((int) ((s % 0x80000000L) / 65536 % w.prizesIn().size()));
            w.draw(t, k);
        }
        return 10000 + w.purses.get(p);
    }

    // ---- images, sheets

    int keep(int k) {
        if (k < 0 || k > 1) {
            return BAD;
        }
        int was = images[k] == null ? 0 : 1;
        images[k] = now.copy();
        return was;
    }

    int back(int k) {
        if (k < 0 || k > 1) {
            return BAD;
        }
        if (images[k] == null) {
            return STATE;
        }
        now = images[k].copy();
        return rule(2);
    }

    int sheet(int k, int lane, int n) {
        if (k < 0 || k > 3 || lane < 0 || lane > 2 || n > 40) {
            return BAD;
        }
        if (n < 0) {
            return -14;
        }
        sheets[k] = new long[n];
        lanes[k] = lane;
        return 1;
    }

    int lay(int k, int i, int v) {
        if (k < 0 || k > 3) {
            return BAD;
        }
        if (sheets[k] == null) {
            return -11;
        }
        if (i < 0 || i >= sheets[k].length) {
            return -12;
        }
        int width = 8 << lanes[k];
        sheets[k][i] = (long) v << 64 - width >> 64 - width;
        return 1;
    }

    int read(int k, int lane, int f, int n) {
        if (k < 0 || k > 3 || lane < 0 || lane > 2 || n < 0 || n > 20) {
            return BAD;
        }
        World w = now.copy();
        int drawn = 0;
        int found = 0;
        while (found == 0 && drawn < n) {
            long at = (long) f + 2 * drawn;
            if (sheets[k] == null) {
                found = 1;
            } else if (lanes[k] != lane) {
                found = 3;
            } else if (at < 0 || at + 1 >= sheets[k].length) {
                found = 2;
            } else if (w.draw((int) sheets[k][(int) at], (int) sheets[k][(int) at + 1]) < 0) {
                return -20 - drawn;
            } else {
                drawn++;
            }
        }
        now = w;
        torn = found;
        return drawn;
    }

    int torn() {
        return torn;
    }

    int count(int what) {
        if (what == 0) {
            return 10000 + now.purses.stream().mapToInt(x -> x).sum();
        } else if (what == 1) {
            return now.seen.size();
        } else if (what == 2) {
            return (images[0] == null ? 0 : 1) + (images[1] == null ? 0 : 1);
        } else if (what == 3) {
            return tape.length();
        } else if (what == 4) {
            return sheets[0] == null ? NONE : sheets[0].length;
        }
        return BAD;
    }
}
