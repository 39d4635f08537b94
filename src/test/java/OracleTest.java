import java.util.Random;

/** Long random runs of calls on the class and on the oracle: each answer must be the same. */
public final class OracleTest {
    private static final String[] WORDS = {"person", "whole", "hired", "split", "insured", "prize", "draw", "persons", "a"};
    private static final int[] WILD = {
        Integer.MIN_VALUE, Integer.MIN_VALUE + 1, -1000, -999, -101, -100, -20, -10, -5, -4, -3, -2, -1, 0, 1, 2, 3, 4, 5, 6, 7,
        9, 10, 11, 12, 13, 14, 15, 19, 20, 21, 39, 40, 41, 98, 99, 100, 127, 128, 159, 160, 161, 255, 256, 257, 998, 999, 1000,
        32767, 32768, 65536, 65537, Integer.MAX_VALUE - 1, Integer.MAX_VALUE
    };

    private final Check check = new Check();
    private final Random dice;
    private WheelTickets x;
    private Oracle o;
    private String log;

    private OracleTest(long seed) {
        dice = new Random(seed);
    }

    public static void main(String[] args) {
        OracleTest test = new OracleTest(20261117);
        for (int run = 0; run < 250 && test.check.allRight(); run++) {
            test.runOfCalls();
        }
        for (int run = 0; run < 4000 && test.check.allRight(); run++) {
            test.runOfTexts();
        }
        test.check.close("OracleTest");
    }

    private void due(String call, long got, long want) {
        log += call + "=" + got + " ";
        check.due(log + "|| " + call, got, want);
    }

    /** Mostly a number from 0 to most, now and then just outside, or far. */
    private int near(int most) {
        int c = dice.nextInt(24);
        if (c == 0) {
            return -1;
        }
        if (c == 1) {
            return most + 1;
        }
        return c == 2 ? WILD[dice.nextInt(WILD.length)] : dice.nextInt(most + 1);
    }

    private int person() {
        return near(Math.max(0, o.now.purses.size() - 1));
    }

    private int place() {
        return near(Math.max(0, o.now.tickets.size() - 1));
    }

    /** An end that some way has, or one beside it, or any. */
    private int end(int p) {
        int c = dice.nextInt(12);
        if (c == 0) {
            return WILD[dice.nextInt(WILD.length)];
        }
        if (c == 1 || o.noPerson(p)) {
            return dice.nextInt(400) - 100;
        }
        int drifted = o.drift(dice.nextInt(), p) - 10000;
        return c == 2 ? drifted + 1 : c == 3 ? drifted - 1 : drifted;
    }

    private String goodText() {
        StringBuilder s = new StringBuilder();
        int people = 1 + dice.nextInt(4);
        int tickets = dice.nextInt(5);
        for (int p = 0; p < people; p++) {
            s.append("person ").append(dice.nextInt(dice.nextBoolean() ? 100 : 20)).append(';');
        }
        for (int t = 0; t < tickets; t++) {
            s.append(WORDS[1 + dice.nextInt(4)]).append(' ').append(dice.nextInt(people)).append(' ')
                .append(dice.nextInt(people)).append(' ').append(dice.nextInt(10)).append(';');
        }
        for (int k = dice.nextInt(tickets + 1); k > 0; k--) {
            s.append("prize ").append(dice.nextInt(3) == 0 ? dice.nextInt(3) : dice.nextInt(100)).append(';');
        }
        if (tickets > 1 && dice.nextInt(4) == 0) {
            s.append("draw ").append(dice.nextInt(tickets)).append(' ').append(dice.nextInt(tickets)).append(';');
        }
        return s.toString();
    }

    private String anyText() {
        StringBuilder s = new StringBuilder();
        if (dice.nextBoolean()) {
            s.append(goodText());
        }
        int lines = dice.nextInt(6);
        for (int i = 0; i < lines; i++) {
            s.append(WORDS[dice.nextInt(dice.nextInt(6) == 0 ? 9 : 7)]);
            int numbers = dice.nextInt(5);
            for (int n = 0; n < numbers; n++) {
                s.append(dice.nextInt(9) == 0 ? "" : " ").append(dice.nextInt(dice.nextInt(9) == 0 ? 120 : 4));
            }
            s.append(dice.nextInt(9) == 0 ? " " : ";").append(dice.nextInt(5) == 0 ? "  " : "");
        }
        for (int flaws = dice.nextInt(3); flaws > 0 && s.length() > 0; flaws--) {
            int at = dice.nextInt(s.length());
            int c = dice.nextInt(4);
            if (c == 0) {
                s.deleteCharAt(at);
            } else if (c == 1) {
                s.setCharAt(at, (char) dice.nextInt(128));
            } else if (c == 2) {
                s.insert(at, " 19;azdr`{/:".charAt(dice.nextInt(12)));
            } else {
                s.setLength(at);
            }
        }
        return s.toString();
    }

    private void feed(String text) {
        log += "\"" + text + "\" ";
        for (int i = 0; i < text.length(); i++) {
            check.due(log + "feed", x.feed(text.charAt(i)), o.feed(text.charAt(i)));
        }
    }

    private void tell(String text) {
        feed(text);
        due("text", x.text(), o.text());
        due("fault", x.fault(), o.fault());
    }

    private void renew() {
        x = new WheelTickets();
        o = new Oracle();
        log = "";
    }

    private void runOfCalls() {
        renew();
        if (dice.nextInt(30) > 0) {
            tell(goodText());
        }
        int calls = 60 + dice.nextInt(120);
        for (int i = 0; i < calls && check.allRight(); i++) {
            int c = dice.nextInt(100);
            if (c < 22) {
                change();
            } else if (c < 54) {
                weigh();
            } else if (c < 75) {
                guess();
            } else {
                hold();
            }
            if (i % 8 == 0) {
                lookAtAll();
            }
        }
        lookAtAll();
    }

    private void runOfTexts() {
        renew();
        for (int i = 0; i < 3 && check.allRight(); i++) {
            if (dice.nextInt(3) == 0) {
                int n = near(x.count(3));
                due("end(" + n + ")", x.end(n), o.end(n));
            }
            tell(anyText());
            x.keep(1);
            o.keep(1);
            lookAtAll();
            feed("per");
        }
    }

    private void change() {
        int t = place();
        int k = place();
        int v = near(99);
        int what = near(3);
        switch (dice.nextInt(6)) {
            case 0: {
                int to = near(what == 3 ? 9 : 3);
                due("sign(" + t + "," + what + "," + to + ")", x.sign(t, what, to), o.sign(t, what, to));
                break;
            }
            case 1: {
                int p = person();
                due("fill(" + p + "," + v + ")", x.fill(p, v), o.fill(p, v));
                break;
            }
            case 2:
                due("promise(" + k + "," + v + ")", x.promise(k, v), o.promise(k, v));
                break;
            case 3:
                due("draw(" + t + "," + k + ")", x.draw(t, k), o.draw(t, k));
                break;
            case 4: {
                int seed = dice.nextInt();
                int p = person();
                due("drift(" + seed + "," + p + ")", x.drift(seed, p), o.drift(seed, p));
                break;
            }
            default:
                if (dice.nextInt(5) == 0) {
                    tell(dice.nextInt(4) == 0 ? anyText() : goodText());
                }
        }
    }

    private void weigh() {
        int p = person();
        int t = place();
        int v = end(p);
        int what = near(1);
        switch (dice.nextInt(10)) {
            case 0: due("worth(" + what + ")", x.worth(what), o.worth(what)); break;
            case 1: due("day(" + t + "," + what + ")", x.day(t, what), o.day(t, what)); break;
            case 2: due("mean(" + p + "," + what + ")", x.mean(p, what), o.mean(p, what)); break;
            case 3: due("luck(" + p + "," + v + "," + what + ")", x.luck(p, v, what), o.luck(p, v, what)); break;
            case 4: due("solid(" + what + ")", x.solid(what), o.solid(what)); break;
            case 5: {
                int which = near(2);
                due("ends(" + p + "," + which + ")", x.ends(p, which), o.ends(p, which));
                break;
            }
            case 6: due("fee(" + t + "," + v + ")", x.fee(t, v), o.fee(t, v)); break;
            case 7: due("kind(" + t + ")", x.kind(t), o.kind(t)); break;
            case 8: due("buy(" + p + ")", x.buy(p), o.buy(p)); break;
            default: due("cap(" + t + "," + p + "," + v + ")", x.cap(t, p, v), o.cap(t, p, v));
        }
    }

    private void guess() {
        int p = person();
        int v = end(p);
        int n = near(Math.max(1, o.now.seen.size()));
        int what = near(1);
        int of = dice.nextInt(8) == 0 ? near(14) : 10 + place();
        switch (dice.nextInt(6)) {
            case 0: due("see(" + p + "," + v + ")", x.see(p, v), o.see(p, v)); break;
            case 1: due("forget(" + n + ")", x.forget(n), o.forget(n)); break;
            case 2: due("fits(0)", x.fits(0), o.fits(0)); break;
            case 3: due("fits(" + of + ")", x.fits(of), o.fits(of)); break;
            default: due("ask(" + what + ")", x.ask(what), o.ask(what));
        }
    }

    private void hold() {
        int k = near(1);
        int s = dice.nextInt(4) == 0 ? near(3) : 0;
        int lane = dice.nextInt(4) == 0 ? near(2) : 0;
        int n = dice.nextInt(6) == 0 ? near(40) : 2 * dice.nextInt(5);
        int v = dice.nextInt(6) == 0 ? dice.nextInt() : dice.nextInt(6) == 0 ? near(3) + 256 * dice.nextInt(300) : place();
        int i = near(9);
        switch (dice.nextInt(10)) {
            case 0: due("keep(" + k + ")", x.keep(k), o.keep(k)); break;
            case 1: case 2: due("back(" + k + ")", x.back(k), o.back(k)); break;
            case 3: due("sheet(" + s + "," + lane + "," + n + ")", x.sheet(s, lane, n), o.sheet(s, lane, n)); break;
            case 4: case 5: case 6: due("lay(" + s + "," + i + "," + v + ")", x.lay(s, i, v), o.lay(s, i, v)); break;
            default: {
                int times = dice.nextInt(6) == 0 ? near(20) : dice.nextInt(4);
                due("read(" + s + "," + lane + "," + i + "," + times + ")", x.read(s, lane, i, times), o.read(s, lane, i, times));
                due("torn", x.torn(), o.torn());
            }
        }
    }

    private void lookAtAll() {
        for (int what = -1; what < 7; what++) {
            due("rule(" + what + ")", x.rule(what), o.rule(what));
            due("count(" + what + ")", x.count(what), o.count(what));
        }
        for (int i = -1; i < 5; i++) {
            for (int what = -1; what < 6; what++) {
                due("person(" + i + "," + what + ")", x.person(i, what), o.person(i, what));
                due("ticket(" + i + "," + what + ")", x.ticket(i, what), o.ticket(i, what));
                due("prize(" + i + "," + what + ")", x.prize(i, what), o.prize(i, what));
            }
        }
        due("fault", x.fault(), o.fault());
        due("torn", x.torn(), o.torn());
        log = log.length() > 20000 ? log.substring(log.length() - 10000) : log;
    }
}
