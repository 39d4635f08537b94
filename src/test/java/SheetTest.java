/** Images and sheets: promises 29 to 35, a test of each sentence that names a boundary. */
public final class SheetTest {
    private static final int STATE = Run.STATE, NONE = Run.NONE;
    private static final int NULL = 1, INDEX = 2, CAST = 3;
    private static final String THREE =
        "person 10;person 20;person 5;hired 0 1 2;split 1 2 0;insured 2 0 1;prize 30;prize 7;";
    private static final String FOUR = "person 50;" + "whole 0 0 0;".repeat(4) + "prize 1;prize 2;prize 4;prize 8;";
    private static final Check CHECK = new Check();

    public static void main(String[] args) {
        keepWhetherThereWasOne();
        keepAllOfIt();
        keepWhatWasSeen();
        backIsTheDay();
        backOfNone();
        backLeavesWhatNoImageHolds();
        imagesStayApart();
        sheetOfEachSize();
        sheetOfASizeBelowNothing();
        sheetIsBad();
        sheetOfCellsOfNothing();
        layOnEachCell();
        layOnNothing();
        layBesideTheCells();
        layIsBad();
        layTheLowestBits();
        readHowManyWereDrawn();
        readFromCellOn();
        readUpToTwenty();
        readIsBad();
        readAndNull();
        readAndCast();
        readAndIndex();
        readThoseWholeAhead();
        readThatIsRefused();
        readTheFirstMet();
        readNoTimes();
        tornOfTheLatest();
        tornOfAReadThatCameToNoEnd();
        countEach();
        countIsBad();
        CHECK.close("SheetTest");
    }

    private static Run told(String text, String... calls) {
        return Run.told(CHECK, text, calls);
    }

    /** With SHEET k of a lane that has these CELLS. */
    private static Run laid(int k, int lane, int... cells) {
        Run run = told(FOUR, "sheet " + k + " " + lane + " " + cells.length);
        for (int i = 0; i < cells.length; i++) {
            run.due("lay " + k + " " + i + " " + cells[i], 1);
        }
        return run;
    }

    // ---- promises 29 and 30

    private static void keepWhetherThereWasOne() {
        CHECK.sentence("keep: IMAGE k (0, 1): whether there was one (1, 0). BAD");
        told(THREE).isBad("keep -1").isBad("keep 2").isBad("keep LOW").isBad("keep HIGH").due("count 2", 0).due("keep 1", 0)
            .due("count 2", 1).due("keep 1", 1).due("keep 0", 0).due("count 2", 2).due("keep 0", 1).due("keep 1", 1)
            .due("count 2", 2);
        new Run(CHECK).due("keep 0", 0).due("keep 0", 1).due("back 0", 0).due("rule 0", 0);
    }

    private static void keepAllOfIt() {
        CHECK.sentence("keep: IMAGE k is PEOPLE, TICKETS, PRIZES (all of them)");
        Run run = told(THREE, "draw 1 0", "keep 0").then("fill 0 1", "fill 1 2", "fill 2 3", "sign 0 0 3", "sign 0 1 2", "sign 0 2 2",
            "sign 0 3 9", "promise 1 50", "promise 2 60", "draw 0 1", "draw 2 2");
        run.due("back 0", 1).due("rule 0", 3).due("rule 1", 3).due("rule 2", 1).due("rule 3", 5).due("rule 4", 6).due("rule 5", 7)
            .due("person 0 0", 10000 + 10 + 2 + 1).due("person 1 0", 10000 + 20 - 2 + 15).due("person 2 0", 10000 + 5 - 1 + 15)
            .due("ticket 0 0", 1).due("ticket 0 1", 0).due("ticket 0 2", 1).due("ticket 0 3", 2).due("ticket 0 4", NONE)
            .due("ticket 1 4", 0).due("ticket 2 4", NONE).due("prize 0 0", 30).due("prize 0 1", 1).due("prize 1 0", 7)
            .due("prize 1 1", NONE).due("prize 2 0", 0).due("prize 2 1", NONE);
    }

    private static void keepWhatWasSeen() {
        CHECK.sentence("keep: what was SEEN");
        told(FOUR, "keep 1", "see 0 65", "keep 0", "see 0 64").due("fits 0", 0).due("back 0", 0).due("count 1", 1)
            .due("fits 0", 576).due("back 1", 0).due("count 1", 0).due("back 0", 0).due("count 1", 1).then("forget 0", "see 0 1")
            .due("back 0", 0).due("fits 0", 576);
        // Of whom, and how much: both come back, and both stay by a read.
        String two = "person 1;person 2;whole 0 0 0;whole 1 1 0;prize 4;";
        told(two, "see 0 5", "see 1 2", "keep 0", "forget 0", "see 1 6", "see 0 1").due("fits 10", 2).due("back 0", 0)
            .due("fits 0", 2).due("fits 10", 1).due("forget 1", 2).due("fits 10", 1).then("see 0 1").due("fits 0", 0);
        told(two, "see 0 1", "see 1 6", "keep 0", "forget 0", "see 1 2", "see 0 5").due("fits 10", 1).due("back 0", 0)
            .due("fits 10", 2).due("forget 1", 2).due("fits 10", 2);
        told(two, "drift 1 0", "sheet 0 0 2", "lay 0 1 1", "see 1 6", "see 0 1").due("read 0 0 0 1", 1).due("count 1", 2)
            .due("fits 0", 1).due("forget 1", 2).due("fits 0", 1).then("see 0 2").due("fits 0", 0);
        String[] six = {"see 0 1", "see 0 2", "see 0 3", "see 0 4", "see 0 5", "see 0 6"};
        told(FOUR, six).then("keep 0", "forget 0").due("back 0", 0).due("count 1", 6).due("see 0 0", Run.FULL);
    }

    private static void backIsTheDay() {
        CHECK.sentence("back: All is as IMAGE k: DAY");
        Run run = told(FOUR, "keep 0");
        for (int t = 0; t < 4; t++) {
            run.then("draw " + t + " " + t, "keep 1").due("back 0", 0).due("rule 2", 0).due("back 1", t + 1).due("rule 2", t + 1);
        }
        run.due("person 0 0", 10065).due("back 0", 0).due("person 0 0", 10050);
    }

    private static void backOfNone() {
        CHECK.sentence("back: BAD; STATE: there is none");
        told(THREE, "draw 0 0", "see 0 1").due("back 0", STATE).due("back 1", STATE).isBad("back -1").isBad("back 2").isBad("back LOW")
            .isBad("back HIGH").due("rule 2", 1).due("count 1", 1).then("keep 0").due("back 1", STATE).due("back 0", 1)
            .due("keep 1", 0).due("back 1", 1);
        told(THREE, "keep 1").due("back 0", STATE).due("back 1", 0).due("back 1", 0);
        new Run(CHECK).due("back 0", STATE).due("back 1", STATE).isBad("back 2");
    }

    private static void backLeavesWhatNoImageHolds() {
        CHECK.sentence("back: THE TAPE, SHEETS, FAULTS are of no IMAGE");
        told(FOUR, "keep 0", "sheet 0 1 5", "read 0 1 5 1", "feed 35", "text").feed("person 7;").due("back 0", 0).due("count 3", 9)
            .due("count 4", 5).due("torn", INDEX).due("fault", 1).due("count 2", 1).due("text", 1).due("person 0 0", 10007);
    }

    private static void imagesStayApart() {
        CHECK.sentence("IMAGE 0 and IMAGE 1 are two, and stay as they were kept");
        told(FOUR, "keep 0", "fill 0 9", "keep 1", "fill 0 8").due("back 0", 0).due("person 0 0", 10050).then("fill 0 7")
            .due("back 1", 0).due("person 0 0", 10009).then("draw 0 0").due("back 0", 0).due("person 0 0", 10050).due("rule 2", 0)
            .due("back 1", 0).due("person 0 0", 10009).due("rule 2", 0).due("keep 0", 1).due("back 0", 0).due("person 0 0", 10009);
    }

    // ---- promise 31

    private static void sheetOfEachSize() {
        CHECK.sentence("SHEETS 0 to 3 are rows of BYTES (lane 0), SHORTS (1), INTS (2) with 0 to 40 CELLS");
        for (int k = 0; k < 4; k++) {
            for (int lane = 0; lane < 3; lane++) {
                String of = "sheet " + k + " " + lane + " ";
                told(FOUR).due(of + 0, 1).due("lay " + k + " 0 1", -12).due(of + 1, 1).due("lay " + k + " 0 1", 1)
                    .due("lay " + k + " 1 1", -12).due(of + 40, 1).due("lay " + k + " 39 1", 1).due("lay " + k + " 40 1", -12)
                    .due("count 4", k == 0 ? 40 : NONE).isBad(of + 41).due("lay " + k + " 39 1", 1).due(of + 39, 1)
                    .due("lay " + k + " 39 1", -12).due("lay " + k + " 38 1", 1);
            }
        }
    }

    private static void sheetOfASizeBelowNothing() {
        CHECK.sentence("sheet: -10 - 4 (SIZE: below 0)");
        told(FOUR).due("sheet 0 0 -1", -14).due("count 4", NONE).due("sheet 1 1 -2", -14).due("sheet 2 2 LOW", -14)
            .due("lay 1 0 0", -11).due("sheet 0 0 3", 1).due("sheet 0 1 -1", -14).due("count 4", 3).due("lay 0 2 0", 1)
            .due("read 0 0 0 1", 1).due("torn", 0);
    }

    private static void sheetIsBad() {
        CHECK.sentence("sheet: BAD: also n above 40");
        told(FOUR).isBad("sheet 0 0 41").isBad("sheet 0 0 HIGH").isBad("sheet -1 0 1").isBad("sheet 4 0 1").isBad("sheet 0 -1 1")
            .isBad("sheet 0 3 1").isBad("sheet LOW 0 1").isBad("sheet 0 HIGH 1").isBad("sheet 4 0 -1").isBad("sheet 0 3 -1")
            .isBad("sheet -1 0 -1").isBad("sheet 0 -1 -1").due("count 4", NONE).due("lay 0 0 0", -11);
    }

    private static void sheetOfCellsOfNothing() {
        CHECK.sentence("sheet: a new row of CELLS 0");
        for (int lane = 0; lane < 3; lane++) {
            laid(1, lane, 3, 2, 3, 2).due("sheet 1 " + lane + " 4", 1).due("read 1 " + lane + " 2 1", 1).due("ticket 0 4", 0)
                .due("rule 3", 14).due("rule 4", 14);
        }
        // Nothing of a longer row comes back, nor does one sheet show in another.
        laid(1, 0, 3, 2, 3, 2).due("sheet 1 0 1", 1).due("sheet 1 0 4", 1).due("read 1 0 2 1", 1).due("rule 3", 14);
        laid(1, 0, 3, 2).due("sheet 2 0 2", 1).due("read 2 0 0 1", 1).due("rule 3", 14).due("read 1 0 0 1", 1).due("rule 3", 6);
        laid(1, 0, 3, 2).due("sheet 1 2 2", 1).due("read 1 0 0 1", 0).due("torn", CAST).due("read 1 2 0 1", 1);
    }

    // ---- promise 32

    private static void layOnEachCell() {
        CHECK.sentence("lay: CELL i of a SHEET becomes v: 1");
        for (int i = 0; i < 39; i++) {
            Run run = told(FOUR, "sheet 2 1 40").due("lay 2 " + i + " 3", 1).due("lay 2 " + (i + 1) + " 2", 1);
            run.due("read 2 1 " + i + " 1", 1).due("ticket 3 4", 2).due("rule 2", 1);
        }
        laid(0, 0, 1, 1).due("lay 0 0 2", 1).due("read 0 0 0 1", 1).due("ticket 2 4", 1);
    }

    private static void layOnNothing() {
        CHECK.sentence("lay: -10 less the FAULT: NULL");
        for (int k = 0; k < 4; k++) {
            told(FOUR).due("lay " + k + " 0 0", -11).due("lay " + k + " -1 0", -11).due("lay " + k + " 40 0", -11)
                .due("lay " + k + " LOW 0", -11).due("sheet " + k + " 0 1", 1).due("lay " + k + " 0 0", 1);
        }
    }

    private static void layBesideTheCells() {
        CHECK.sentence("lay: -10 less the FAULT: INDEX");
        told(FOUR, "sheet 0 2 2").due("lay 0 -1 3", -12).due("lay 0 2 3", -12).due("lay 0 LOW 3", -12).due("lay 0 HIGH 3", -12)
            .due("read 0 2 0 1", 1).due("ticket 0 4", 0).due("lay 0 1 3", 1).due("lay 0 0 3", 1);
        told(FOUR, "sheet 0 0 0").due("lay 0 0 1", -12).due("lay 0 -1 1", -12);
        told(FOUR, "sheet 0 0 40").due("lay 0 39 1", 1).due("lay 0 40 1", -12);
    }

    private static void layIsBad() {
        CHECK.sentence("lay: BAD: k");
        told(FOUR, "sheet 0 0 2", "sheet 3 0 2").isBad("lay -1 0 1").isBad("lay 4 0 1").isBad("lay LOW 0 1").isBad("lay HIGH 0 1")
            .isBad("lay 4 9 1").due("read 0 0 0 1", 1).due("ticket 0 4", 0).due("lay 3 1 1", 1);
    }

    /** A pair of CELLS of a lane: whether they are TICKET 1 and PRIZE 2. */
    private static void pair(int lane, int ticket, int prize, boolean drawn) {
        Run run = laid(3, lane, ticket, prize);
        run.due("read 3 " + lane + " 0 1", drawn ? 1 : -20).due("ticket 1 4", drawn ? 2 : NONE).due("rule 2", drawn ? 1 : 0);
    }

    private static void layTheLowestBits() {
        CHECK.sentence("lay: CELL i of a SHEET becomes v (its lowest bits)");
        int[][] same = {{257, -254}, {65537, -65534}, {1, 2}};
        int[] wide = {0x100, 0x10000};
        for (int lane = 0; lane < 3; lane++) {
            pair(lane, 1, 2, true);
            pair(lane, same[lane][0], same[lane][1], true);
            pair(lane, 1, 130, false);
            pair(lane, 129, 2, false);
            pair(lane, -1, 2, false);
            pair(lane, 1, -1, false);
            pair(lane, 255, 2, false);
            pair(lane, Integer.MIN_VALUE + 1, 2, lane < 2);
            pair(lane, 1, Integer.MIN_VALUE + 2, lane < 2);
            for (int bits : wide) {
                boolean beyond = lane == 0 || lane == 1 && bits == 0x10000;
                pair(lane, 1 + bits, 2, beyond);
                pair(lane, 1, 2 + bits, beyond);
                pair(lane, 1 - bits, 2, beyond);
                pair(lane, 1, 2 + bits / 2, lane == 0 && bits == 0x10000);
            }
        }
    }

    // ---- promise 33

    private static void readHowManyWereDrawn() {
        CHECK.sentence("read: n times a TICKET, a PRIZE are read, one behind another as by draw(): how many were drawn");
        int[] cells = {3, 0, 1, 2, 0, 3, 2, 1};
        for (int k = 0; k < 4; k++) {
            for (int lane = 0; lane < 3; lane++) {
                for (int n = 0; n <= 4; n++) {
                    Run run = laid(k, lane, cells).due("read " + k + " " + lane + " 0 " + n, n).due("rule 2", n).due("torn", 0);
                    for (int i = 0; i < 4; i++) {
                        run.due("ticket " + cells[2 * i] + " 4", i < n ? cells[2 * i + 1] : NONE);
                    }
                }
            }
        }
        // As by draw(): fees are paid day by day.
        told(THREE, "sheet 0 0 4", "lay 0 0 1", "lay 0 1 0", "lay 0 2 2", "lay 0 3 2").due("read 0 0 0 2", 2)
            .due("person 0 0", 10000 + 10 + 2 + 1 + 2 + 1 - 5).due("person 1 0", 10000 + 20 - 2 + 15 - 2)
            .due("person 2 0", 10000 + 5 - 1 + 15 - 1 + 5).due("rule 2", 2);
    }

    private static void readFromCellOn() {
        CHECK.sentence("read: two CELLS each from CELL f on");
        laid(0, 0, 9, 3, 0, 1, 2).due("read 0 0 1 2", 2).due("ticket 3 4", 0).due("ticket 1 4", 2).due("torn", 0);
        laid(0, 0, 9, 3, 0, 1, 2).due("read 0 0 3 1", 1).due("ticket 1 4", 2).due("ticket 3 4", NONE);
        laid(0, 0, 9, 3, 0, 1, 2).due("read 0 0 2 1", 1).due("ticket 0 4", 1);
        laid(0, 0, 9, 3, 0, 1, 2).due("read 0 0 0 1", -20);
    }

    private static void readUpToTwenty() {
        CHECK.sentence("read: n (0 to 20) times");
        laid(0, 0, 0, 0, 1, 1).due("read 0 0 0 20", 2).due("torn", INDEX).due("rule 2", 2);
        laid(0, 0, 0, 0, 1, 1).isBad("read 0 0 0 21").isBad("read 0 0 0 -1").isBad("read 0 0 0 LOW").isBad("read 0 0 0 HIGH")
            .due("rule 2", 0).due("torn", 0).due("read 0 0 0 0", 0).due("rule 2", 0).due("read 0 0 0 1", 1);
        // The whole of 40 CELLS, as far as there are tickets.
        Run run = told(FOUR, "sheet 0 2 40").then("lay 0 2 1", "lay 0 3 1", "lay 0 4 2", "lay 0 5 2", "lay 0 6 3", "lay 0 7 3");
        run.due("read 0 2 0 20", -24).due("rule 2", 0).due("read 0 2 0 4", 4).due("rule 2", 4);
        told(FOUR, "sheet 0 2 40").due("read 0 2 38 1", 1).due("torn", 0);
        told(FOUR, "sheet 0 2 40").due("read 0 2 39 1", 0).due("torn", INDEX);
    }

    private static void readIsBad() {
        CHECK.sentence("read: BAD: k, lane, n");
        Run run = laid(0, 0, 0, 0);
        for (String call : new String[] {"-1 0 0 1", "4 0 0 1", "LOW 0 0 1", "0 -1 0 1", "0 3 0 1", "0 HIGH 0 1", "0 0 0 -1", "0 0 0 21",
            "4 0 0 0", "0 3 0 0", "1 3 0 1", "1 0 0 21", "4 3 9 21"}) {
            run.isBad("read " + call);
        }
        run.due("rule 2", 0).due("torn", 0).due("read 0 0 0 1", 1);
    }

    private static void readAndNull() {
        CHECK.sentence("A FAULT is what the machine finds: 1 NULL (nothing)");
        for (int k = 0; k < 4; k++) {
            for (int lane = 0; lane < 3; lane++) {
                for (String f : new String[] {"0", "-1", "40", "LOW", "HIGH"}) {
                    told(FOUR).due("read " + k + " " + lane + " " + f + " 1", 0).due("torn", NULL).due("rule 2", 0);
                }
            }
        }
        told(FOUR).due("read 0 0 0 20", 0).due("torn", NULL).due("sheet 0 0 0", 1).due("read 0 0 0 1", 0).due("torn", INDEX);
    }

    private static void readAndCast() {
        CHECK.sentence("A FAULT is what the machine finds: 3 CAST (another lane)");
        for (int is = 0; is < 3; is++) {
            for (int as = 0; as < 3; as++) {
                laid(2, is, 1, 1).due("read 2 " + as + " 0 1", is == as ? 1 : 0).due("torn", is == as ? 0 : CAST)
                    .due("rule 2", is == as ? 1 : 0);
                laid(2, is, 1, 1).due("read 2 " + as + " 9 1", 0).due("torn", is == as ? INDEX : CAST);
                told(FOUR, "sheet 2 " + is + " 0").due("read 2 " + as + " 0 1", 0).due("torn", is == as ? INDEX : CAST);
            }
        }
        // Cells that draw() would refuse are not come to.
        laid(2, 0, 9, 9).due("read 2 1 0 1", 0).due("torn", CAST).due("read 2 0 0 1", -20);
    }

    private static void readAndIndex() {
        CHECK.sentence("A FAULT is what the machine finds: 2 INDEX");
        for (String f : new String[] {"-1", "-2", "2", "1", "3", "LOW", "HIGH", "2147483646", "-2147483647"}) {
            laid(0, 1, 0, 0).due("read 0 1 " + f + " 1", 0).due("torn", INDEX).due("rule 2", 0);
            laid(0, 1, 0, 0).due("read 0 1 " + f + " 20", 0).due("torn", INDEX).due("rule 2", 0);
        }
        laid(0, 1, 0, 0).due("read 0 1 0 1", 1).due("torn", 0);
        laid(0, 1, 0).due("read 0 1 0 1", 0).due("torn", INDEX).due("rule 2", 0);
    }

    private static void readThoseWholeAhead() {
        CHECK.sentence("read: What the machine refuses: those that were whole ahead are");
        laid(0, 0, 0, 1, 2, 3, 1).due("read 0 0 0 3", 2).due("torn", INDEX).due("rule 2", 2).due("ticket 0 4", 1).due("ticket 2 4", 3)
            .due("ticket 1 4", NONE);
        laid(0, 0, 0, 1, 2, 3).due("read 0 0 0 3", 2).due("torn", INDEX).due("rule 2", 2);
        laid(0, 0, 0, 1, 2, 3).due("read 0 0 0 2", 2).due("torn", 0).due("rule 2", 2);
        // A TICKET that there is not, without its PRIZE: it is not whole, so the machine refuses it, not draw().
        laid(0, 0, 0, 1, 9).due("read 0 0 0 2", 1).due("torn", INDEX).due("rule 2", 1).due("ticket 0 4", 1);
        laid(0, 0, 0, 1, 0).due("read 0 0 0 2", 1).due("torn", INDEX).due("rule 2", 1);
    }

    private static void readThatIsRefused() {
        CHECK.sentence("read: -20 less i: the i-th, whole, is refused by draw() (in whichever way): then none is");
        int[][] wrong = {{4, 0}, {0, 4}, {-1, 0}, {0, -1}, {127, 127}, {0, 3}, {3, 0}};
        for (int[] w : wrong) {
            // Ticket 3 has prize 3 already.
            Run first = laid(0, 0, w[0], w[1]).then("draw 3 3");
            first.due("read 0 0 0 1", -20).due("rule 2", 1);
            laid(0, 0, 1, 1, w[0], w[1]).then("draw 3 3").due("read 0 0 0 2", -21).due("rule 2", 1).due("ticket 1 4", NONE)
                .due("person 0 0", 10058).due("read 0 0 0 1", 1);
            laid(0, 0, 1, 1, 2, 2, w[0], w[1]).then("draw 3 3").due("read 0 0 0 3", -22).due("rule 2", 1).due("rule 3", 7)
                .due("rule 4", 7).due("person 0 0", 10058).due("read 0 0 0 2", 2);
        }
        // What was drawn by the same read counts as drawn: the ticket, the prize, both.
        laid(0, 0, 1, 1, 1, 2).due("read 0 0 0 2", -21).due("rule 2", 0);
        laid(0, 0, 1, 1, 2, 1).due("read 0 0 0 2", -21).due("rule 2", 0);
        laid(0, 0, 1, 1, 1, 1).due("read 0 0 0 2", -21).due("rule 2", 0);
        laid(0, 0, 0, 0, 1, 1, 2, 2, 3, 3, 0, 0).due("read 0 0 0 5", -24).due("rule 2", 0).due("person 0 0", 10050);
    }

    private static void readTheFirstMet() {
        CHECK.sentence("read: the first met");
        laid(0, 0, 0, 0, 9, 9, 9).due("read 0 0 0 20", -21).due("rule 2", 0).due("torn", 0);
        laid(0, 0, 9, 9, 0, 0, 9, 9).due("read 0 0 0 3", -20).due("rule 2", 0);
        laid(0, 0, 0, 0, 9, 9).due("read 0 0 0 1", 1).due("torn", 0);
        laid(0, 0, 0, 0, 1).due("read 0 0 0 20", 1).due("torn", INDEX);
    }

    private static void readNoTimes() {
        CHECK.sentence("read: n 0 times: nothing is read, so the machine refuses nothing");
        for (int k = 0; k < 2; k++) {
            for (int lane = 0; lane < 3; lane++) {
                for (String f : new String[] {"0", "1", "2", "-1", "LOW", "HIGH"}) {
                    laid(0, 0, 9, 9).then("read 3 0 0 1").due("torn", NULL).due("read " + k + " " + lane + " " + f + " 0", 0)
                        .due("torn", 0).due("rule 2", 0);
                }
            }
        }
    }

    // ---- promise 34

    private static void tornOfTheLatest() {
        CHECK.sentence("torn: The FAULT of the latest read() that came to an end; 0");
        Run run = laid(0, 0, 1, 1, 2, 2).due("torn", 0).due("read 1 0 0 1", 0).due("torn", NULL).due("read 0 1 0 1", 0)
            .due("torn", CAST).due("read 0 0 4 1", 0).due("torn", INDEX).due("torn", INDEX).due("read 0 0 0 1", 1).due("torn", 0)
            .due("read 0 0 2 2", 1).due("torn", INDEX).due("read 0 0 0 0", 0).due("torn", 0);
        run.due("sheet 0 0 -1", -14).due("lay 1 0 0", -11).due("lay 0 9 0", -12).due("torn", 0);
        laid(0, 0, 1, 1).then("read 1 0 0 1", "sheet 0 0 -1", "lay 0 9 0", "sheet 1 0 2", "lay 0 0 0", "draw 0 0", "keep 0", "back 0")
            .due("torn", NULL).due("text", 0).due("torn", NULL);
    }

    private static void tornOfAReadThatCameToNoEnd() {
        CHECK.sentence("torn: the latest read() that came to an end: one that was refused did not");
        laid(0, 0, 1, 1, 9, 9).then("read 1 0 0 1").due("torn", NULL).due("read 0 0 0 2", -21).due("torn", NULL)
            .isBad("read 0 0 0 21").due("torn", NULL).isBad("read 4 0 0 1").due("torn", NULL).isBad("read 0 3 0 1")
            .due("torn", NULL).due("read 0 0 0 1", 1).due("torn", 0).due("read 0 0 2 1", -20).due("torn", 0);
    }

    // ---- promise 35

    private static void countEach() {
        CHECK.sentence("count: 0 10000 and all PURSES");
        told("").due("count 0", 10000);
        told("person 0;").due("count 0", 10000);
        told("person 99;person 99;person 99;person 99;").due("count 0", 10396).then("fill 3 0").due("count 0", 10297);
        told("person 0;person 0;hired 0 1 9;draw 0 0;").due("count 0", 10000).then("fill 0 0").due("count 0", 9991);
        told(FOUR, "draw 0 3").due("count 0", 10058);
        CHECK.sentence("count: 1 SEEN");
        Run seen = told(FOUR).due("count 1", 0);
        for (int i = 1; i <= 6; i++) {
            seen.then("see 0 1").due("count 1", i);
        }
        seen.then("see 0 1").due("count 1", 6).then("forget 4").due("count 1", 4);
        CHECK.sentence("count: 2 IMAGES");
        told(FOUR).due("count 2", 0).then("keep 1").due("count 2", 1).then("keep 1").due("count 2", 1).then("keep 0")
            .due("count 2", 2).then("back 0").due("count 2", 2).due("text", 0).due("count 2", 0);
        told(FOUR, "keep 0").due("count 2", 1);
        CHECK.sentence("count: 3 bytes on THE TAPE");
        new Run(CHECK).due("count 3", 0).then("feed 0").due("count 3", 1).feed(" ".repeat(159)).due("count 3", 160)
            .then("feed 0").due("count 3", 160).then("end 7").due("count 3", 7).then("text").due("count 3", 0);
        CHECK.sentence("count: 4 CELLS of SHEET 0 (NONE: nothing)");
        told(FOUR).due("count 4", NONE).then("sheet 1 0 3", "sheet 2 0 3", "sheet 3 0 3").due("count 4", NONE).then("sheet 0 0 0")
            .due("count 4", 0).then("sheet 0 2 40").due("count 4", 40).then("sheet 0 1 1").due("count 4", 1);
    }

    private static void countIsBad() {
        CHECK.sentence("count: BAD");
        told(FOUR).isBad("count -1").isBad("count 5").isBad("count LOW").isBad("count HIGH").due("count 4", NONE);
    }
}
