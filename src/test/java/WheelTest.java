/** A new object, PEOPLE, TICKETS, PRIZES, DRAWS, what is asked of them and changed: promises 1 and 6 to 13. */
public final class WheelTest {
    private static final int STATE = Run.STATE, NONE = Run.NONE;
    private static final int WHOLE = 0, HIRED = 1, SPLIT = 2, INSURED = 3;
    private static final String[] KINDS = {"whole", "hired", "split", "insured"};
    private static final String THREE =
        "person 10;person 20;person 5;hired 0 1 2;split 1 2 0;insured 2 0 1;prize 30;prize 7;";
    private static final String FOUR = "person 1;person 2;person 3;person 4;"
        + "whole 0 3 0;hired 1 2 9;split 2 1 5;insured 3 0 1;prize 99;prize 0;prize 50;prize 1;";
    private static final Check CHECK = new Check();

    public static void main(String[] args) {
        aNewObject();
        ruleOfPeopleAndTickets();
        ruleOfDays();
        ruleOfWhatIsIn();
        ruleOfWhatTheseAreInAll();
        personsPurse();
        aPurseMayBeBelowNothing();
        personsTickets();
        ticketsTraits();
        ticketsPrize();
        prizesHowMuch();
        prizesTicket();
        signEach();
        signOfADrawnTicket();
        fillAPurse();
        promiseAPrize();
        promiseOfADrawnPrize();
        drawAnswersHowMuch();
        drawIsBad();
        drawOfWhatIsDrawn();
        drawLeavesBothDrawn();
        feesOfEachKind();
        feesOfThoseInTheWheel();
        feesFromNothingToMost();
        prizeOfEachKind();
        halfOfItUp();
        insuredByABlank();
        whoIsBothPaysHimself();
        toldOrChangedIsTheSame();
        fourPeopleAndFourTickets();
        CHECK.close("WheelTest");
    }

    private static void aNewObject() {
        CHECK.sentence("A new object: Nobody, no TICKETS; SHEETS of nothing");
        Run run = new Run(CHECK);
        for (int what = 0; what < 6; what++) {
            run.due("rule " + what, 0);
        }
        run.isBad("person 0 0").isBad("ticket 0 0").isBad("prize 0 0").isBad("sign 0 0 0").isBad("fill 0 0")
            .isBad("promise 0 0").isBad("draw 0 0").isBad("day 0 0").isBad("mean 0 0").isBad("luck 0 0 0").isBad("ends 0 0")
            .isBad("fee 0 0").isBad("kind 0").isBad("buy 0").isBad("cap 0 0 0").isBad("see 0 0").isBad("fits 10")
            .isBad("drift 0 0");
        run.due("count 0", 10000).due("count 1", 0).due("count 2", 0).due("count 3", 0).due("count 4", NONE);
        run.due("fault", 0).due("torn", 0).due("end 0", 0).due("forget 0", 0).due("back 0", STATE).due("back 1", STATE);
        run.due("worth 0", NONE).due("worth 1", NONE).fraction("solid", 1, 1).due("fits 0", 1).due("ask 0", NONE);
        for (int k = 0; k < 4; k++) {
            run.due("lay " + k + " 0 0", -11);
            for (int lane = 0; lane < 3; lane++) {
                run.due("read " + k + " " + lane + " 0 1", 0).due("torn", 1);
            }
        }
        run.due("text", 0).due("keep 0", 0).due("back 0", 0).due("rule 0", 0);
    }

    // ---- promise 6

    private static void ruleOfPeopleAndTickets() {
        CHECK.sentence("rule: 0 PEOPLE, 1 TICKETS (4 at most each)");
        for (int n = 0; n <= 4; n++) {
            Run.told(CHECK, "person 1;".repeat(n)).due("rule 0", n).due("rule 1", 0);
            Run.told(CHECK, "person 1;" + "hired 0 0 0;".repeat(n)).due("rule 0", 1).due("rule 1", n)
                .due("rule 3", (1 << n) - 1).due("rule 4", (1 << n) - 1);
        }
        Run.told(CHECK, FOUR).isBad("rule -1").isBad("rule 6").due("rule 0", 4).due("rule 1", 4);
    }

    private static void ruleOfDays() {
        CHECK.sentence("rule: 2 DAY: how many TICKETS are drawn");
        Run run = Run.told(CHECK, FOUR).due("rule 2", 0);
        for (int t = 3; t >= 0; t--) {
            run.then("draw " + t + " " + t).due("rule 2", 4 - t).due("rule 1", 4).due("rule 0", 4);
        }
    }

    private static void ruleOfWhatIsIn() {
        CHECK.sentence("rule: 3 TICKETS in THE WHEEL (bits), 4 PRIZES in it (bits)");
        Run.told(CHECK, FOUR).due("rule 3", 15).due("rule 4", 15)
            .then("draw 3 0").due("rule 3", 7).due("rule 4", 14)
            .then("draw 0 3").due("rule 3", 6).due("rule 4", 6)
            .then("draw 1 2").due("rule 3", 4).due("rule 4", 2)
            .then("draw 2 1").due("rule 3", 0).due("rule 4", 0);
    }

    private static void ruleOfWhatTheseAreInAll() {
        CHECK.sentence("rule: 5 what these are in all");
        Run.told(CHECK, FOUR).due("rule 5", 150).then("draw 3 0").due("rule 5", 51).then("draw 0 1").due("rule 5", 51)
            .then("promise 2 99").due("rule 5", 100).then("draw 1 3").due("rule 5", 99).then("draw 2 2").due("rule 5", 0);
        Run.told(CHECK, "person 1;" + "whole 0 0 0;".repeat(4) + "prize 99;".repeat(4)).due("rule 5", 396);
    }

    // ---- promise 7

    private static void personsPurse() {
        CHECK.sentence("person: 0 10000 and PURSE");
        Run.told(CHECK, "person 0;person 99;person 1;person 98;").due("person 0 0", 10000).due("person 1 0", 10099)
            .due("person 2 0", 10001).due("person 3 0", 10098).isBad("person 4 0").isBad("person -1 0").isBad("person 0 3")
            .isBad("person 0 -1");
    }

    private static void aPurseMayBeBelowNothing() {
        CHECK.sentence("a PURSE: it may be below 0");
        Run.told(CHECK, "person 0;person 1;hired 0 1 1;hired 0 1 0;").then("draw 1 1").due("person 1 0", 10000)
            .then("draw 0 0").due("person 1 0", 9999).due("fill 1 0", 9999);
        // The least: a fee of 9 for 4, 3, 2, 1 days; the most: all of these and four prizes of 99.
        String hired = "person 0;person 99;" + "hired 1 0 9;".repeat(4);
        Run.told(CHECK, hired, "draw 0 0", "draw 1 1", "draw 2 2", "draw 3 3").due("person 0 0", 9910)
            .due("person 1 0", 10189).due("count 0", 10099);
        String insured = "person 99;person 0;" + "insured 1 0 9;".repeat(4) + "prize 99;".repeat(4);
        Run.told(CHECK, insured, "draw 0 0", "draw 1 1", "draw 2 2", "draw 3 3").due("person 0 0", 10189)
            .due("person 1 0", 10000 - 90 + 396);
        String blanks = "person 0;person 0;" + "insured 0 1 9;".repeat(4);
        Run.told(CHECK, blanks, "draw 0 0", "draw 1 1", "draw 2 2", "draw 3 3").due("person 0 0", 10000 - 90 + 180)
            .due("person 1 0", 10000 + 90 - 180);
    }

    private static void personsTickets() {
        CHECK.sentence("person: 1 TICKETS that he owns, 2 of which he is the OTHER (bits each)");
        Run run = Run.told(CHECK, FOUR);
        long[] others = {8, 4, 2, 1};
        for (int p = 0; p < 4; p++) {
            run.due("person " + p + " 1", 1 << p).due("person " + p + " 2", others[p]);
        }
        Run.told(CHECK, "person 1;person 1;" + "split 1 0 0;".repeat(4)).due("person 0 1", 0).due("person 0 2", 15)
            .due("person 1 1", 15).due("person 1 2", 0).then("sign 3 1 0", "sign 0 2 1").due("person 0 1", 8)
            .due("person 1 1", 7).due("person 0 2", 14).due("person 1 2", 1);
        Run.told(CHECK, "person 1;whole 0 0 0;").due("person 0 1", 1).due("person 0 2", 1).then("draw 0 0")
            .due("person 0 1", 1).due("person 0 2", 1);
        Run.told(CHECK, "person 1;").due("person 0 1", 0).due("person 0 2", 0);
    }

    // ---- promises 8 and 9

    private static void ticketsTraits() {
        CHECK.sentence("ticket: 0 KIND, 1 OWNER, 2 OTHER, 3 FEE");
        long[][] want = {{0, 0, 3, 0}, {1, 1, 2, 9}, {2, 2, 1, 5}, {3, 3, 0, 1}};
        Run run = Run.told(CHECK, FOUR);
        for (int t = 0; t < 4; t++) {
            for (int what = 0; what < 4; what++) {
                run.due("ticket " + t + " " + what, want[t][what]);
            }
        }
        run.then("draw 1 0").due("ticket 1 0", 1).due("ticket 1 1", 1).due("ticket 1 2", 2).due("ticket 1 3", 9);
        run.isBad("ticket 4 0").isBad("ticket -1 0").isBad("ticket 0 5").isBad("ticket 0 -1");
    }

    private static void ticketsPrize() {
        CHECK.sentence("ticket: 4 the PRIZE that it drew (NONE: it is in THE WHEEL)");
        Run run = Run.told(CHECK, FOUR);
        for (int t = 0; t < 4; t++) {
            run.due("ticket " + t + " 4", NONE).then("draw " + t + " " + (3 - t)).due("ticket " + t + " 4", 3 - t);
        }
        run.due("ticket 0 4", 3).due("ticket 3 4", 0).isBad("ticket 4 4");
    }

    private static void prizesHowMuch() {
        CHECK.sentence("prize: 0 how much");
        Run.told(CHECK, FOUR).due("prize 0 0", 99).due("prize 1 0", 0).due("prize 2 0", 50).due("prize 3 0", 1)
            .then("draw 1 0", "draw 0 1").due("prize 0 0", 99).due("prize 1 0", 0).isBad("prize 4 0").isBad("prize -1 0")
            .isBad("prize 0 2").isBad("prize 0 -1");
        Run.told(CHECK, THREE).due("prize 2 0", 0).isBad("prize 3 0");
    }

    private static void prizesTicket() {
        CHECK.sentence("prize: 1 the TICKET that drew it (NONE: it is in THE WHEEL)");
        Run run = Run.told(CHECK, FOUR);
        for (int k = 0; k < 4; k++) {
            run.due("prize " + k + " 1", NONE).then("draw " + (3 - k) + " " + k).due("prize " + k + " 1", 3 - k);
        }
        run.isBad("prize 4 1");
    }

    // ---- promises 10 to 12

    private static void signEach() {
        CHECK.sentence("sign: KIND, OWNER, OTHER, FEE (what 0 to 3) of a TICKET becomes v: what it was");
        int[] most = {3, 2, 2, 9};
        long[][] was = {{1, 0, 1, 2}, {2, 1, 2, 0}, {3, 2, 0, 1}};
        for (int t = 0; t < 3; t++) {
            for (int what = 0; what < 4; what++) {
                Run run = Run.told(CHECK, THREE);
                String sign = "sign " + t + " " + what + " ";
                run.due(sign + most[what], was[t][what]).due("ticket " + t + " " + what, most[what]).due(sign + 0, most[what])
                    .due("ticket " + t + " " + what, 0).isBad(sign + -1).isBad(sign + (most[what] + 1))
                    .due("ticket " + t + " " + what, 0);
                for (int other = 0; other < 4; other++) {
                    if (other != what) {
                        run.due("ticket " + t + " " + other, was[t][other]);
                    }
                }
                run.due("ticket " + (t + 1) % 3 + " " + what, was[(t + 1) % 3][what]);
            }
        }
        Run.told(CHECK, FOUR).due("sign 3 1 3", 3).isBad("sign 3 1 4").due("sign 3 2 3", 0).isBad("sign 3 2 4")
            .isBad("sign 4 0 0").isBad("sign -1 0 0").isBad("sign 0 4 0").isBad("sign 0 -1 0");
    }

    private static void signOfADrawnTicket() {
        CHECK.sentence("sign: STATE: it is drawn");
        for (int t = 0; t < 3; t++) {
            Run run = Run.told(CHECK, THREE, "draw " + t + " 1");
            for (int what = 0; what < 4; what++) {
                long was = run.call("ticket " + t + " " + what);
                run.due("sign " + t + " " + what + " 0", STATE).due("sign " + t + " " + what + " 1", STATE)
                    .due("ticket " + t + " " + what, was).isNotBad("sign " + (t + 1) % 3 + " " + what + " 0");
            }
        }
    }

    private static void fillAPurse() {
        CHECK.sentence("fill: A PERSON has v (0 to 99) in his PURSE: 10000 and what he had");
        Run.told(CHECK, THREE).due("fill 0 99", 10010).due("person 0 0", 10099).due("fill 0 0", 10099)
            .due("person 0 0", 10000).isBad("fill 0 100").isBad("fill 0 -1").isBad("fill 3 5").isBad("fill -1 5")
            .due("person 0 0", 10000).due("person 1 0", 10020).due("fill 2 1", 10005).due("person 2 0", 10001);
        Run.told(CHECK, "person 0;person 0;hired 0 1 9;draw 0 0;").due("fill 1 5", 9991).due("person 1 0", 10005)
            .due("fill 0 5", 10009);
    }

    private static void promiseAPrize() {
        CHECK.sentence("promise: A PRIZE becomes of so much (0 to 99): how much it was");
        Run.told(CHECK, THREE).due("promise 2 99", 0).due("prize 2 0", 99).due("promise 2 0", 99).due("prize 2 0", 0)
            .isBad("promise 2 100").isBad("promise 2 -1").isBad("promise 3 0").isBad("promise -1 0").due("prize 2 0", 0)
            .due("prize 0 0", 30).due("promise 0 1", 30).due("rule 5", 8);
    }

    private static void promiseOfADrawnPrize() {
        CHECK.sentence("promise: STATE: it is drawn");
        for (int k = 0; k < 3; k++) {
            long[] much = {30, 7, 0};
            int t = (k + 1) % 3;
            Run.told(CHECK, THREE, "draw " + t + " " + k).due("promise " + k + " 9", STATE).due("prize " + k + " 0", much[k])
                .due("promise " + t + " 9", much[t]).due("prize " + t + " 0", 9);
        }
    }

    // ---- promise 13 and A DRAW

    private static void drawAnswersHowMuch() {
        CHECK.sentence("draw: A DRAW: how much the PRIZE is");
        Run.told(CHECK, FOUR).due("draw 3 0", 99).due("draw 0 1", 0).due("draw 1 2", 50).due("draw 2 3", 1);
        // Whatever of it he has, and whatever is paid.
        for (String kind : KINDS) {
            Run.told(CHECK, "person 1;person 1;" + kind + " 0 1 9;prize 77;").due("draw 0 0", 77);
            Run.told(CHECK, "person 1;person 1;" + kind + " 0 1 9;").due("draw 0 0", 0);
        }
    }

    private static void drawIsBad() {
        CHECK.sentence("draw: BAD");
        Run.told(CHECK, THREE).isBad("draw 3 0").isBad("draw 0 3").isBad("draw -1 0").isBad("draw 0 -1").isBad("draw LOW 0")
            .isBad("draw 0 HIGH").due("rule 2", 0).due("count 0", 10035).due("person 0 0", 10010).due("draw 2 2", 0);
    }

    private static void drawOfWhatIsDrawn() {
        CHECK.sentence("draw: STATE: one of them is drawn");
        Run.told(CHECK, THREE).due("draw 1 0", 30).due("draw 1 1", STATE).due("draw 0 0", STATE).due("draw 1 0", STATE)
            .due("rule 2", 1).due("person 0 0", 10013).due("person 1 0", 10033).due("person 2 0", 10019).due("ticket 1 4", 0)
            .due("prize 0 1", 1).due("ticket 0 4", NONE).due("prize 1 1", NONE).due("draw 0 1", 7).due("draw 0 2", STATE)
            .due("draw 2 1", STATE).due("draw 2 2", 0).due("draw 2 2", STATE).due("rule 2", 3);
    }

    private static void drawLeavesBothDrawn() {
        CHECK.sentence("A DRAW: Both are drawn then");
        for (int t = 0; t < 4; t++) {
            for (int k = 0; k < 4; k++) {
                Run.told(CHECK, FOUR, "draw " + t + " " + k).due("ticket " + t + " 4", k).due("prize " + k + " 1", t)
                    .due("rule 3", 15 - (1 << t)).due("rule 4", 15 - (1 << k)).due("rule 2", 1);
            }
        }
    }

    /** One ticket of a kind that draws a prize: what both have then, 50 each ahead of it. */
    private static void drawn(int kind, int fee, int much, int owner, int other) {
        Run.told(CHECK, "person 50;person 50;" + KINDS[kind] + " 0 1 " + fee + ";prize " + much + ";").due("draw 0 0", much)
            .due("person 0 0", 10050 + owner).due("person 1 0", 10050 + other);
        Run.told(CHECK, "person 50;person 50;" + KINDS[kind] + " 1 0 " + fee + ";prize " + much + ";").due("draw 0 0", much)
            .due("person 1 0", 10050 + owner).due("person 0 0", 10050 + other);
    }

    private static void feesOfEachKind() {
        CHECK.sentence("FEES: hired: OTHER pays FEE to OWNER; insured: OWNER pays FEE to OTHER");
        int[] toOwner = {0, 7, 0, -7};
        for (int kind = WHOLE; kind <= INSURED; kind++) {
            // Another ticket draws a blank: so only fees are paid.
            Run.told(CHECK, "person 50;person 50;" + KINDS[kind] + " 0 1 7;whole 0 0 0;").due("draw 1 0", 0)
                .due("person 0 0", 10050 + toOwner[kind]).due("person 1 0", 10050 - toOwner[kind]);
        }
    }

    private static void feesOfThoseInTheWheel() {
        CHECK.sentence("FEES: for each TICKET in THE WHEEL (this one, too)");
        Run.told(CHECK, "person 0;person 0;hired 0 1 1;hired 0 1 2;hired 0 1 4;hired 0 1 8;")
            .then("draw 2 0").due("person 0 0", 10015).due("person 1 0", 9985)
            .then("draw 0 1").due("person 0 0", 10026).then("draw 3 2").due("person 0 0", 10036)
            .then("draw 1 3").due("person 0 0", 10038).due("person 1 0", 9962);
        // This one, too: the only one that there is.
        drawn(HIRED, 9, 0, 9, -9);
        drawn(INSURED, 9, 1, -9 + 1, 9);
    }

    private static void feesFromNothingToMost() {
        CHECK.sentence("a FEE (0 to 9)");
        for (int fee : new int[] {0, 1, 8, 9}) {
            drawn(WHOLE, fee, 5, 5, 0);
            drawn(HIRED, fee, 5, fee, 5 - fee);
            drawn(SPLIT, fee, 5, 3, 2);
            drawn(INSURED, fee, 5, 5 - fee, fee);
            drawn(INSURED, fee, 0, 4 * fee, -4 * fee);
        }
    }

    private static void prizeOfEachKind() {
        CHECK.sentence("the PRIZE is had: whole: by OWNER; hired: by OTHER; split: half by OWNER, the rest by OTHER; insured: by OWNER");
        for (int much : new int[] {0, 1, 2, 98, 99}) {
            drawn(WHOLE, 0, much, much, 0);
            drawn(HIRED, 0, much, 0, much);
            drawn(SPLIT, 0, much, (much + 1) / 2, much / 2);
            drawn(INSURED, 0, much, much, 0);
        }
    }

    private static void halfOfItUp() {
        CHECK.sentence("split: half of it (up) by OWNER, the rest by OTHER");
        drawn(SPLIT, 9, 0, 0, 0);
        drawn(SPLIT, 9, 1, 1, 0);
        drawn(SPLIT, 9, 2, 1, 1);
        drawn(SPLIT, 9, 3, 2, 1);
        drawn(SPLIT, 9, 98, 49, 49);
        drawn(SPLIT, 9, 99, 50, 49);
    }

    private static void insuredByABlank() {
        CHECK.sentence("insured: is it 0, OTHER pays him five times FEE");
        drawn(INSURED, 3, 0, -3 + 15, 3 - 15);
        drawn(INSURED, 3, 1, -3 + 1, 3);
        drawn(INSURED, 9, 0, -9 + 45, 9 - 45);
        drawn(INSURED, 1, 99, -1 + 99, 1);
        // No other KIND is paid for a blank.
        drawn(WHOLE, 3, 0, 0, 0);
        drawn(HIRED, 3, 0, 3, -3);
        drawn(SPLIT, 3, 0, 0, 0);
    }

    private static void whoIsBothPaysHimself() {
        CHECK.sentence("Who is both pays himself");
        for (int kind = WHOLE; kind <= INSURED; kind++) {
            for (int much : new int[] {0, 1, 99}) {
                Run.told(CHECK, "person 5;person 6;" + KINDS[kind] + " 1 1 9;prize " + much + ";").due("draw 0 0", much)
                    .due("person 1 0", 10006 + much).due("person 0 0", 10005);
            }
        }
    }

    private static final String[] ASKED = {"worth 0", "day 0 0", "day 1 0", "mean 0 0", "mean 1 0", "luck 0 12 0", "luck 1 9 0",
        "luck 0 20 1", "solid 0", "solid 1", "ends 0 0", "ends 0 1", "ends 0 2", "ends 1 0", "ends 1 1", "ends 1 2", "fee 0 12",
        "fee 1 8", "fee 2 9", "kind 0", "kind 1", "kind 2", "buy 0", "buy 1", "cap 0 0 40", "cap 1 1 60", "cap 2 0 90", "fits 0",
        "fits 10", "fits 11", "fits 12", "ask 0", "ask 1", "drift 1 0", "drift 2 1", "drift 3 0", "count 0", "rule 5"};

    /** What a text tells, and the same reached by calls, answers alike: nothing is worked out from what there was. */
    private static void toldOrChangedIsTheSame() {
        CHECK.sentence("what is changed is changed for all that is asked");
        String want = "person 11;person 3;hired 0 1 4;insured 1 0 6;whole 0 1 2;prize 20;prize 0;prize 6;";
        String[] ends = {"see 0 30", "see 1 3"};
        String[][] ways = {
            {"person 50;person 60;hired 0 1 4;insured 1 0 6;whole 0 1 2;prize 20;prize 0;prize 6;", "fill 0 11", "fill 1 3"},
            {"person 11;person 3;split 0 1 4;whole 1 0 6;insured 0 1 2;prize 20;prize 0;prize 6;", "sign 0 0 1", "sign 1 0 3", "sign 2 0 0"},
            {"person 11;person 3;hired 1 0 9;insured 0 1 0;whole 1 0 1;prize 20;prize 0;prize 6;", "sign 0 1 0", "sign 0 2 1",
                "sign 0 3 4", "sign 1 1 1", "sign 1 2 0", "sign 1 3 6", "sign 2 1 0", "sign 2 2 1", "sign 2 3 2"},
            {"person 11;person 3;hired 0 1 4;insured 1 0 6;whole 0 1 2;prize 1;prize 2;", "promise 0 20", "promise 1 0", "promise 2 6"},
            {want, "keep 0", "draw 0 0", "fill 0 9", "sign 1 3 1", "back 0"}
        };
        for (String[] way : ways) {
            for (String asked : ASKED) {
                Run first = Run.told(CHECK, want, ends);
                Run other = Run.told(CHECK, way[0]);
                for (int i = 1; i < way.length; i++) {
                    other.then(way[i]);
                }
                other.then(ends).due(asked, first.call(asked));
                // Nor does it hang on what was asked ahead of it.
                other.then("kind 0", "buy 1", "fee 2 3", "drift 4 1").due(asked, first.call(asked));
            }
        }
        // A draw told by a text, made by a call, read of a sheet.
        for (String asked : ASKED) {
            Run told = Run.told(CHECK, want + "draw 1 2;", ends);
            Run called = Run.told(CHECK, want, "draw 1 2").then(ends);
            Run read = Run.told(CHECK, want, "sheet 3 1 2", "lay 3 0 1", "lay 3 1 2", "read 3 1 0 1").then(ends);
            long answer = told.call(asked);
            called.due(asked, answer);
            read.due(asked, answer);
        }
    }

    /** All that there can be at once: each of the four has a ticket that the next one hires. */
    private static void fourPeopleAndFourTickets() {
        CHECK.sentence("PEOPLE (4 at most), TICKETS (4 at most): all of them at once");
        String ring = "person 40;person 40;person 40;person 40;hired 0 1 1;hired 1 2 1;hired 2 3 1;hired 3 0 1;prize 8;";
        Run run = Run.told(CHECK, ring).due("fits 0", 576).fraction("solid", 1, 1);
        for (int p = 0; p < 4; p++) {
            // A fee is had for 1 to 4 days, another one paid for another number of days; the prize by one of four.
            run.fraction("mean " + p, 42, 1).due("ends " + p + " 0", 10037).due("ends " + p + " 1", 10051)
                .due("ends " + p + " 2", 1 << (p + 3) % 4).fraction("luck " + p + " 51", 1, 48).fraction("luck " + p + " 52", 0, 1)
                .fraction("luck " + p + " 37", 1, 1).fraction("luck " + p + " 38", 15, 16);
        }
        run.then("fill 0 2", "fill 1 2", "fill 2 2", "fill 3 2");
        // Below 0 is who hires the ticket that is drawn last, owns the one that is drawn first, and has no prize.
        run.fraction("solid", 3, 4);
        for (int p = 0; p < 4; p++) {
            Run seen = Run.told(CHECK, ring, "see " + p + " 51").due("fits 0", 12);
            for (int t = 0; t < 4; t++) {
                seen.due("fits " + (10 + t), t == (p + 3) % 4 ? 1 : 14);
            }
            seen.due("ask 0", p == 1 ? 1 : 0).due("ask 1", 4);
        }
        Run.told(CHECK, ring, "see 0 51", "see 1 40").due("fits 0", 0);
        Run.told(CHECK, ring, "see 0 51", "see 1 38", "see 2 41", "see 3 38").due("fits 0", 6);
    }
}
