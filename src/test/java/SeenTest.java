import java.util.ArrayList;
import java.util.List;

/** Who drew what, and draws by a seed: promises 24 to 28, a test of each sentence that names a boundary. */
public final class SeenTest {
    private static final int FULL = Run.FULL, NONE = Run.NONE;
    /** Person 0 has what ticket 0 draws, person 1 all else. */
    private static final String WHOLE = "person 5;person 0;whole 0 0 0;whole 1 1 0;whole 1 1 0;prize 10;prize 4;";
    private static final Check CHECK = new Check();

    public static void main(String[] args) {
        seeHowMany();
        seeUpToSix();
        seeIsBad();
        forgetAllButTheFirst();
        forgetIsBad();
        fitsAllWays();
        fitsAsSeen();
        fitsAtEachEnd();
        fitsByTheOrderOfTickets();
        fitsPrizesOfATicket();
        fitsOfADrawnTicket();
        fitsWhenNothingIsLeft();
        fitsIsBad();
        askFewestAtTheWorst();
        askFewerThanNow();
        askOfSeveralTheFirst();
        askIsBad();
        driftByASeed();
        driftOfEachSeed();
        driftWhenNothingIsLeft();
        driftIsBad();
        CHECK.close("SeenTest");
    }

    private static Run told(String text, String... calls) {
        return Run.told(CHECK, text, calls);
    }

    // ---- promises 24 and 25

    private static void seeHowMany() {
        CHECK.sentence("see: SEEN: THE END of a PERSON is v (-999 to 999): how many are");
        told(WHOLE).due("count 1", 0).due("see 0 -999", 1).due("see 1 999", 2).due("see 0 0", 3).due("count 1", 3);
        told(WHOLE).due("see 0 15", 1).due("see 0 15", 2).due("fits 0", 12).due("see 0 9", 3).due("fits 0", 0);
    }

    private static void seeUpToSix() {
        CHECK.sentence("SEEN (6); see: FULL");
        Run run = told(WHOLE);
        for (int i = 1; i <= 6; i++) {
            run.due("see 0 9", i);
        }
        run.due("see 0 15", FULL).due("see 1 0", FULL).due("count 1", 6).due("fits 0", 12).due("fits 10", 2);
        run.due("forget 5", 6).due("see 0 15", 6).due("see 0 15", FULL).due("fits 0", 0).due("forget 5", 6).due("fits 0", 12);
        // Each of the six counts, the last one too.
        for (int wrong = 0; wrong < 6; wrong++) {
            Run one = told(WHOLE);
            for (int i = 0; i < 6; i++) {
                one.then(i == wrong ? "see 0 8" : "see 0 9");
            }
            one.due("fits 0", 0).due("forget " + wrong, 6).due("fits 0", wrong == 0 ? 36 : 12);
        }
    }

    private static void seeIsBad() {
        CHECK.sentence("see: BAD");
        told(WHOLE).isBad("see 2 0").isBad("see -1 0").isBad("see 0 1000").isBad("see 0 -1000").isBad("see 0 LOW")
            .isBad("see 0 HIGH").due("count 1", 0).due("fits 0", 36).due("see 1 -999", 1).due("see 1 999", 2);
        new Run(CHECK).isBad("see 0 0").due("count 1", 0);
    }

    private static void forgetAllButTheFirst() {
        CHECK.sentence("forget: SEEN are the first n alone: how many there were");
        String[] three = {"see 0 9", "see 1 10", "see 0 8"};
        told(WHOLE, three).due("forget 3", 3).due("fits 0", 0).due("forget 2", 3).due("count 1", 2).due("fits 0", 12)
            .due("forget 1", 2).due("fits 0", 12).due("forget 0", 1).due("fits 0", 36).due("forget 0", 0);
        told(WHOLE, three).due("forget 0", 3).due("count 1", 0).due("see 0 15", 1).due("fits 10", 1);
        told(WHOLE, three).due("forget 1", 3).due("see 1 11", 2).due("fits 0", 0).due("forget 1", 2).due("fits 10", 2);
        Run six = told(WHOLE, "see 0 9", "see 0 9", "see 0 9", "see 0 9", "see 0 9", "see 0 9");
        six.due("forget 6", 6).due("forget 5", 6).due("count 1", 5);
    }

    private static void forgetIsBad() {
        CHECK.sentence("forget: BAD");
        told(WHOLE).isBad("forget 1").isBad("forget -1").due("forget 0", 0);
        told(WHOLE, "see 0 9", "see 1 9").isBad("forget 3").isBad("forget -1").isBad("forget LOW").isBad("forget HIGH")
            .due("count 1", 2).due("fits 0", 0).due("forget 2", 2).due("forget 1", 2).isBad("forget 2").due("fits 0", 12);
        told(WHOLE, "see 0 9", "see 0 9", "see 0 9", "see 0 9", "see 0 9", "see 0 9").isBad("forget 7").due("count 1", 6);
    }

    // ---- promise 26

    private static void fitsAllWays() {
        CHECK.sentence("fits: Ways of THE REST (orders of TICKETS and of PRIZES, each alike)");
        long[] ways = {1, 1, 4, 36, 576};
        for (int n = 0; n <= 4; n++) {
            Run run = told("person 1;" + "whole 0 0 0;".repeat(n)).due("fits 0", ways[n]);
            for (int t = 0; t < n; t++) {
                run.due("fits " + (10 + t), (1 << n) - 1);
            }
            for (int t = 0; t < n; t++) {
                run.then("draw " + t + " " + t).due("fits 0", ways[n - t - 1]);
            }
        }
        new Run(CHECK).due("fits 0", 1);
        told("person 1;" + "whole 0 0 0;".repeat(4)).due("fits 0", 576).due("text", 0).due("fits 0", 1).due("ask 0", NONE);
    }

    private static void fitsAsSeen() {
        CHECK.sentence("fits: by which all is as SEEN: how many (what 0)");
        told(WHOLE, "see 0 9").due("fits 0", 12).then("see 1 10").due("fits 0", 12).then("see 1 11").due("fits 0", 0);
        told(WHOLE, "see 0 8").due("fits 0", 0).due("fits 10", 0).due("fits 11", 0);
        told(WHOLE, "see 1 14").due("fits 0", 12).due("fits 10", 4);
        // It is THE END that was seen: of a purse that is changed, another way.
        told(WHOLE, "see 0 15").due("fits 10", 1).then("fill 0 11").due("fits 10", 2).then("fill 0 12").due("fits 0", 0);
        told(WHOLE, "see 0 15", "promise 2 10").due("fits 0", 24).due("fits 10", 5);
    }

    private static void fitsAtEachEnd() {
        CHECK.sentence("fits: an END is so much, neither less nor more, also below 0");
        for (int end = 3; end <= 17; end++) {
            told(WHOLE, "see 0 " + end).due("fits 0", end == 5 || end == 9 || end == 15 ? 12 : 0);
        }
        for (int end = -10; end <= 1; end++) {
            told("person 0;person 0;hired 0 1 4;whole 0 0 0;", "see 1 " + end).due("fits 0", end == -4 || end == -8 ? 2 : 0);
        }
    }

    private static void fitsByTheOrderOfTickets() {
        CHECK.sentence("fits: orders of TICKETS and of PRIZES");
        // Person 1 pays 1 for each of 1 to 4 days: six orders of 24 for each, by all 24 of prizes.
        for (int days = 0; days <= 5; days++) {
            told("person 0;person 9;hired 0 1 1;whole 0 0 0;whole 0 0 0;whole 0 0 0;", "see 1 " + (9 - days))
                .due("fits 0", days >= 1 && days <= 4 ? 144 : 0).due("fits 10", days >= 1 && days <= 4 ? 15 : 0);
        }
    }

    private static void fitsPrizesOfATicket() {
        CHECK.sentence("fits: 10 and t: PRIZES that a TICKET drew by some (bits)");
        told(WHOLE).due("fits 10", 7).due("fits 11", 7).due("fits 12", 7);
        told(WHOLE, "see 0 15").due("fits 10", 1).due("fits 11", 6).due("fits 12", 6);
        told(WHOLE, "see 0 9").due("fits 10", 2).due("fits 11", 5).due("fits 12", 5);
        told(WHOLE, "see 0 5").due("fits 10", 4).due("fits 11", 3).due("fits 12", 3);
        told(WHOLE, "see 0 6").due("fits 10", 0).due("fits 11", 0).due("fits 12", 0);
        told("person 0;person 0;whole 1 1 0;whole 1 1 0;whole 1 1 0;whole 0 0 0;prize 9;prize 8;prize 7;", "see 0 0")
            .due("fits 13", 8).due("fits 10", 7).due("fits 12", 7);
    }

    private static void fitsOfADrawnTicket() {
        CHECK.sentence("fits: one that is drawn: that one");
        told(WHOLE, "draw 1 0").due("fits 11", 1).due("fits 10", 6).due("fits 12", 6).due("fits 0", 4);
        told(WHOLE, "draw 2 2").due("fits 12", 4).due("fits 10", 3).then("see 0 9").due("fits 12", 4).due("fits 10", 2)
            .due("fits 11", 1);
        told(WHOLE, "draw 0 1", "draw 1 2", "draw 2 0").due("fits 10", 2).due("fits 11", 4).due("fits 12", 1).isBad("fits 13");
        CHECK.sentence("fits: one that is drawn: that one, whatever is SEEN");
        told(WHOLE, "draw 2 2", "see 0 99").due("fits 0", 0).due("fits 12", 4).due("fits 10", 0);
    }

    private static void fitsWhenNothingIsLeft() {
        CHECK.sentence("fits: when all are drawn, or there are none");
        told(WHOLE, "draw 0 1", "draw 1 2", "draw 2 0").due("fits 0", 1).then("see 0 9").due("fits 0", 1).then("see 1 9")
            .due("fits 0", 0);
        told("person 7;").due("fits 0", 1).then("see 0 7").due("fits 0", 1).then("see 0 6").due("fits 0", 0).isBad("fits 10");
    }

    private static void fitsIsBad() {
        CHECK.sentence("fits: BAD");
        Run run = told(WHOLE);
        for (String what : new String[] {"LOW", "-2147483638", "-1", "1", "2", "3", "9", "13", "14", "20", "HIGH"}) {
            run.isBad("fits " + what);
        }
        run.due("fits 12", 7).due("fits 0", 36);
        new Run(CHECK).isBad("fits 10").isBad("fits 9").due("fits 0", 1);
    }

    // ---- promise 27

    private static void askFewestAtTheWorst() {
        CHECK.sentence("ask: so that of ways that fit fewest are left at the worst (by which PRIZE); how many these are (1)");
        told(WHOLE).due("ask 0", 0).due("ask 1", 12);
        told(WHOLE, "see 0 9").due("ask 0", 1).due("ask 1", 6);
        told("person 1;" + "whole 0 0 0;".repeat(4)).due("ask 0", 0).due("ask 1", 144);
        told("person 1;" + "whole 0 0 0;".repeat(2)).due("ask 0", 0).due("ask 1", 2);
        // Ticket 0 drew one of two prizes of 1: 144 are left by each. Another one drew the 2 or the blank by 96 at the worst.
        String alike = "person 0;person 9;whole 0 0 0;whole 1 1 0;whole 1 1 0;whole 1 1 0;prize 1;prize 1;prize 2;";
        told(alike, "see 0 1").due("fits 0", 288).due("ask 0", 1).due("ask 1", 96);
        // Ticket 0 is known; the two prizes of 1 are two, though they are of as much.
        String last = "person 0;person 0;whole 0 0 0;whole 1 1 0;whole 1 1 0;prize 1;prize 1;";
        told(last, "see 0 0").due("fits 0", 12).due("ask 0", 1).due("ask 1", 6);
    }

    private static void askFewerThanNow() {
        CHECK.sentence("ask: fewer than now. NONE: by none");
        told("").due("ask 0", NONE).due("ask 1", NONE);
        told("person 1;").due("ask 0", NONE).due("ask 1", NONE);
        told("person 1;whole 0 0 0;prize 5;").due("ask 0", NONE).due("ask 1", NONE);
        told("person 1;whole 0 0 0;whole 0 0 0;").due("ask 0", 0).then("draw 0 1").due("ask 0", NONE).due("ask 1", NONE)
            .then("draw 1 0").due("ask 0", NONE);
        told(WHOLE, "see 0 9", "draw 1 2").due("fits 0", 2 * 2 - 2).due("ask 0", NONE).due("ask 1", NONE);
        // No way fits: none are fewer.
        told(WHOLE, "see 0 99").due("fits 0", 0).due("ask 0", NONE).due("ask 1", NONE);
        // All that fits is known, though there are several orders of it.
        told("person 0;person 0;whole 0 0 0;whole 1 1 0;prize 3;", "see 0 3").due("fits 0", 2).due("ask 0", NONE);
    }

    private static void askOfSeveralTheFirst() {
        CHECK.sentence("ask: of several the first");
        String four = "person 1;" + "whole 0 0 0;".repeat(4);
        told(four).due("ask 0", 0).then("draw 0 3").due("ask 0", 1).due("ask 1", 12).then("draw 1 2").due("ask 0", 2)
            .due("ask 1", 2).then("draw 2 1").due("ask 0", NONE);
        told(four, "draw 2 2").due("ask 0", 0).then("draw 0 0").due("ask 0", 1);
    }

    private static void askIsBad() {
        CHECK.sentence("ask: BAD");
        told(WHOLE).isBad("ask 2").isBad("ask -1").isBad("ask LOW").isBad("ask HIGH").due("ask 0", 0).due("ask 1", 12);
        told(WHOLE, "draw 0 0", "draw 1 1", "draw 2 2").isBad("ask 2").due("ask 0", NONE);
    }

    // ---- promise 28

    private static final int[] FEES = {1, 2, 4, 8};
    private static final int[] PRIZES = {10, 20, 40, 80};
    /** Person t owns ticket t, the next one hires it. */
    private static final String RING = "person 50;person 50;person 50;person 50;hired 0 1 1;hired 1 2 2;hired 2 3 4;hired 3 0 8;"
        + "prize 10;prize 20;prize 40;prize 80;";

    private static long bits(long seed) {
        return seed % 0x80000000L / 0x10000L;
    }

    private static long turn(long seed) {
        return (seed * 1103515245L + 12345L) & 0xffffffffL;
    }

    /** THE END of all in the ring by a seed, with so many tickets drawn ahead of it, each with its own prize. */
    private static int[] ring(int seed, int ahead) {
        int[] ends = {50, 50, 50, 50};
        List<Integer> tickets = new ArrayList<>(List.of(0, 1, 2, 3));
        List<Integer> prizes = new ArrayList<>(List.of(0, 1, 2, 3));
        long s = seed & 0xffffffffL;
        for (int day = 0; day < 4; day++) {
            for (int t : tickets) {
                ends[t] += FEES[t];
                ends[(t + 1) % 4] -= FEES[t];
            }
            int t;
            int k;
            if (day < ahead) {
                t = tickets.remove(0);
                k = prizes.remove(0);
            } else {
                s = turn(s);
                t = tickets.remove((int) (bits(s) % tickets.size()));
                s = turn(s);
                k = prizes.remove((int) (bits(s) % prizes.size()));
            }
            ends[(t + 1) % 4] += PRIZES[k];
        }
        return ends;
    }

    private static void driftByASeed() {
        CHECK.sentence("drift: bits 16 to 30 of it modulo TICKETS in THE WHEEL, then (once more) modulo PRIZES in it");
        for (int ahead = 0; ahead <= 4; ahead++) {
            String[] draws = new String[ahead];
            for (int t = 0; t < ahead; t++) {
                draws[t] = "draw " + t + " " + t;
            }
            Run run = told(RING, draws);
            for (int seed = 0; seed < 40; seed++) {
                int[] ends = ring(seed, ahead);
                for (int p = 0; p < 4; p++) {
                    run.due("drift " + seed + " " + p, 10000 + ends[p]);
                }
            }
            run.due("rule 2", ahead);
        }
    }

    private static void driftOfEachSeed() {
        CHECK.sentence("drift: the seed becomes seed times 1103515245 and 12345 (any int)");
        int[] seeds = {Integer.MIN_VALUE, Integer.MIN_VALUE + 1, -1103515245, -65536, -65535, -12345, -2, -1, 0, 1, 65535, 65536,
            0x7fff0000, 1103515245, Integer.MAX_VALUE - 1, Integer.MAX_VALUE};
        Run run = told(RING);
        for (int seed : seeds) {
            int[] ends = ring(seed, 0);
            for (int p = 0; p < 4; p++) {
                run.due("drift " + seed + " " + p, 10000 + ends[p]);
            }
        }
    }

    private static void driftWhenNothingIsLeft() {
        CHECK.sentence("drift: till all is drawn: 10000 and THE END of a PERSON");
        told("person 0;person 99;").due("drift 1 0", 10000).due("drift LOW 1", 10099);
        told("person 0;person 0;hired 0 1 9;draw 0 0;").due("drift 1 0", 10009).due("drift HIGH 1", 9991);
        told("person 0;person 0;hired 0 1 9;").due("drift 1 0", 10009).due("drift HIGH 1", 9991).due("person 1 0", 10000);
    }

    private static void driftIsBad() {
        CHECK.sentence("drift: BAD");
        told(RING).isBad("drift 1 4").isBad("drift 1 -1").isBad("drift 1 LOW").isBad("drift 1 HIGH").isNotBad("drift 1 3")
            .due("rule 2", 0).due("count 0", 10200);
        told("person 1;").isBad("drift 0 1").due("drift 0 0", 10001);
        new Run(CHECK).isBad("drift 0 0");
    }
}
