/** What it is worth and what is best: promises 14 to 23, a test of each sentence that names a boundary. */
public final class WorthTest {
    private static final int STATE = Run.STATE, NONE = Run.NONE;
    private static final String THREE =
        "person 10;person 20;person 5;hired 0 1 2;split 1 2 0;insured 2 0 1;prize 30;prize 7;";
    private static final String[] ALL_DRAWN = {"draw 0 0", "draw 1 1", "draw 2 2"};
    private static final Check CHECK = new Check();

    public static void main(String[] args) {
        worthOfThoseInTheWheel();
        worthOfNone();
        dayOfATicket();
        dayOfADrawnTicket();
        meanOfTheEnd();
        meanWhenNothingIsLeft();
        theRestIsAllWaysAlike();
        luckIsNoLessThan();
        luckWhenNothingIsLeft();
        solidIsNobodyBelowNothing();
        solidOfEachPerson();
        solidOfNobody();
        endsLeastAndMost();
        endsFirstToTheMost();
        feeIsTheLeast();
        feeByNone();
        feeOfItsOwner();
        feeOfADrawnTicket();
        kindByWhichTheOwnerHasMost();
        kindOfSeveralTheFirst();
        kindOfADrawnTicket();
        buyTheBest();
        buyMoreThanAsItIs();
        buyOfSeveralTheFirst();
        capIsTheMost();
        capInNoWayMore();
        capByABlank();
        capIsNothingOfTheKind();
        capOfADrawnPrize();
        CHECK.close("WorthTest");
    }

    private static Run told(String text, String... calls) {
        return Run.told(CHECK, text, calls);
    }

    // ---- promise 14

    private static void worthOfThoseInTheWheel() {
        CHECK.sentence("worth: The mean of PRIZES in THE WHEEL: 0, 1. BAD");
        told("person 1;whole 0 0 0;prize 99;").fraction("worth", 99, 1);
        told("person 1;whole 0 0 0;whole 0 0 0;whole 0 0 0;whole 0 0 0;prize 99;prize 98;prize 97;prize 96;")
            .fraction("worth", 195, 2).then("draw 0 3").fraction("worth", 98, 1).then("draw 1 0").fraction("worth", 195, 2)
            .then("draw 2 1").fraction("worth", 97, 1).isBad("worth 2").isBad("worth -1");
        told(THREE).fraction("worth", 37, 3).then("draw 2 0").fraction("worth", 7, 2).then("draw 1 1").fraction("worth", 0, 1);
    }

    private static void worthOfNone() {
        CHECK.sentence("worth: NONE: there are none");
        told("").due("worth 0", NONE).due("worth 1", NONE).isBad("worth 2");
        told("person 1;").due("worth 0", NONE).due("worth 1", NONE);
        told(THREE, "draw 0 0", "draw 1 1").fraction("worth", 0, 1).then("draw 2 2").due("worth 0", NONE).due("worth 1", NONE)
            .isBad("worth -1");
    }

    // ---- promise 15

    private static void dayOfATicket() {
        CHECK.sentence("day: the mean of what it draws in the next DAY (0, if it is not drawn then): 0, 1");
        told("person 1;whole 0 0 0;prize 99;").fraction("day 0", 99, 1);
        told("person 1;whole 0 0 0;whole 0 0 0;prize 99;").fraction("day 0", 99, 4).fraction("day 1", 99, 4);
        told("person 1;whole 0 0 0;hired 0 0 9;split 0 0 9;insured 0 0 9;prize 1;").fraction("day 0", 1, 16)
            .fraction("day 1", 1, 16).fraction("day 2", 1, 16).fraction("day 3", 1, 16).then("draw 0 3")
            .fraction("day 3", 1, 9).then("draw 1 2").fraction("day 2", 1, 4).then("draw 2 1").fraction("day 3", 1, 1);
        told(THREE).fraction("day 2", 37, 9).isBad("day 2 2").isBad("day 2 -1").isBad("day 3 0").isBad("day -1 0");
    }

    private static void dayOfADrawnTicket() {
        CHECK.sentence("day: STATE: it is drawn");
        for (int t = 0; t < 3; t++) {
            told(THREE, "draw " + t + " 2").due("day " + t + " 0", STATE).due("day " + t + " 1", STATE)
                .fraction("day " + (t + 1) % 3, 37, 4);
        }
    }

    // ---- promise 16

    private static void meanOfTheEnd() {
        CHECK.sentence("mean: By THE REST: the mean of THE END of a PERSON: 0, 1 (it may be below 0)");
        // A fee for 1, 1 and a half, 2, 2 and a half days in the mean.
        told("person 0;person 0;hired 0 1 9;").fraction("mean 0", 9, 1).fraction("mean 1", -9, 1);
        told("person 0;person 0;hired 0 1 9;whole 0 0 0;").fraction("mean 0", 27, 2).fraction("mean 1", -27, 2);
        told("person 0;person 0;hired 0 1 9;whole 0 0 0;whole 0 0 0;").fraction("mean 0", 18, 1).fraction("mean 1", -18, 1);
        told("person 0;person 0;hired 0 1 9;whole 0 0 0;whole 0 0 0;whole 0 0 0;").fraction("mean 0", 45, 2)
            .fraction("mean 1", -45, 2);
        told("person 4;person 5;split 0 1 0;split 0 1 0;prize 3;").fraction("mean 0", 6, 1).fraction("mean 1", 6, 1);
        // Insured, by two blanks of three: 5 times 6 by two of three, less 2 days of 6, and 9 by one of three.
        told("person 0;person 0;insured 0 1 6;whole 1 1 0;whole 1 1 0;prize 9;").fraction("mean 0", 20 - 12 + 3, 1)
            .fraction("mean 1", -20 + 12 + 6, 1);
        told(THREE).fraction("mean 0", 43, 3).fraction("mean 1", 104, 3).fraction("mean 2", 23, 1).isBad("mean 3 0")
            .isBad("mean -1 0").isBad("mean 0 2").isBad("mean 0 -1");
    }

    private static void meanWhenNothingIsLeft() {
        CHECK.sentence("mean: when all are drawn, or there are none");
        told("person 0;person 99;").fraction("mean 0", 0, 1).fraction("mean 1", 99, 1);
        told("person 0;person 0;hired 0 1 9;draw 0 0;").fraction("mean 0", 9, 1).fraction("mean 1", -9, 1);
        told("person 8;person 1;insured 0 1 9;draw 0 0;").fraction("mean 0", 44, 1).fraction("mean 1", -35, 1);
    }

    // ---- promises 17 and 18

    private static void theRestIsAllWaysAlike() {
        CHECK.sentence("THE REST: all TICKETS in THE WHEEL are drawn, in each order, with PRIZES in each order, all alike");
        // Person 1 pays 1 for each of 1 to 4 days, all alike.
        Run days = told("person 0;person 4;hired 0 1 1;whole 0 0 0;whole 0 0 0;whole 0 0 0;");
        days.fraction("luck 1 4", 0, 1).fraction("luck 1 3", 1, 4).fraction("luck 1 2", 1, 2).fraction("luck 1 1", 3, 4)
            .fraction("luck 1 0", 1, 1).due("fits 0", 576);
        // A ticket has each prize by one of four.
        Run prizes = told("person 0;person 0;whole 0 0 0;whole 1 1 0;whole 1 1 0;whole 1 1 0;prize 1;prize 2;prize 3;prize 4;");
        prizes.fraction("luck 0 1", 1, 1).fraction("luck 0 2", 3, 4).fraction("luck 0 3", 1, 2).fraction("luck 0 4", 1, 4)
            .fraction("luck 0 5", 0, 1);
        // Of three: days and prizes together, neither hangs on the other.
        Run both = told("person 0;person 3;hired 0 1 1;whole 0 0 0;whole 0 0 0;prize 1;");
        both.fraction("luck 1 3", 1, 9).fraction("luck 1 2", 4, 9).fraction("luck 1 1", 7, 9).fraction("luck 1 0", 1, 1);
    }

    private static void luckIsNoLessThan() {
        CHECK.sentence("luck: that THE END of a PERSON is no less than v (-999 to 999): 0, 1");
        Run run = told("person 5;person 0;whole 0 0 0;whole 1 1 0;prize 10;");
        run.fraction("luck 0 4", 1, 1).fraction("luck 0 5", 1, 1).fraction("luck 0 6", 1, 2).fraction("luck 0 14", 1, 2)
            .fraction("luck 0 15", 1, 2).fraction("luck 0 16", 0, 1).fraction("luck 0 -999", 1, 1).fraction("luck 0 999", 0, 1)
            .isBad("luck 0 -1000 0").isBad("luck 0 1000 0").isBad("luck 2 0 0").isBad("luck -1 0 0").isBad("luck 0 0 2")
            .isBad("luck 0 0 -1");
        Run below = told("person 0;person 0;hired 0 1 2;whole 0 0 0;");
        below.fraction("luck 1 -1", 0, 1).fraction("luck 1 -2", 1, 2).fraction("luck 1 -3", 1, 2).fraction("luck 1 -4", 1, 1)
            .fraction("luck 1 -5", 1, 1);
    }

    private static void luckWhenNothingIsLeft() {
        CHECK.sentence("luck: when all are drawn, or there are none");
        told("person 7;").fraction("luck 0 7", 1, 1).fraction("luck 0 8", 0, 1).fraction("luck 0 -999", 1, 1);
        told("person 0;person 0;hired 0 1 9;draw 0 0;").fraction("luck 1 -9", 1, 1).fraction("luck 1 -8", 0, 1);
    }

    private static void solidIsNobodyBelowNothing() {
        CHECK.sentence("solid: that THE END of nobody is below 0: 0, 1");
        told("person 0;person 9;hired 0 1 9;").fraction("solid", 1, 1).then("fill 1 8").fraction("solid", 0, 1);
        told("person 0;person 18;hired 0 1 9;whole 0 0 0;").fraction("solid", 1, 1).then("fill 1 17").fraction("solid", 1, 2)
            .then("fill 1 9").fraction("solid", 1, 2).then("fill 1 8").fraction("solid", 0, 1);
        told(THREE).isBad("solid 2").isBad("solid -1").isBad("solid LOW").isBad("solid HIGH");
        told("person 0;person 0;hired 0 1 1;draw 0 0;").fraction("solid", 0, 1).then("fill 1 0").fraction("solid", 1, 1);
    }

    private static void solidOfEachPerson() {
        CHECK.sentence("solid: nobody, whoever he is");
        for (int p = 0; p < 4; p++) {
            int other = p == 0 ? 1 : 0;
            Run run = told("person 9;person 9;person 9;person 9;hired " + other + " " + p + " 9;whole 0 0 0;");
            run.fraction("solid", 1, 2).then("fill " + p + " 18").fraction("solid", 1, 1).then("fill " + p + " 0")
                .fraction("solid", 0, 1);
        }
        // Two of them are below 0 in ways that are not the same: of the orders, the one or the other.
        told("person 20;person 1;person 1;hired 0 1 1;hired 0 2 1;").fraction("solid", 0, 1);
        told("person 20;person 1;person 2;hired 0 1 1;hired 0 2 1;").fraction("solid", 1, 2);
        told("person 20;person 2;person 2;hired 0 1 1;hired 0 2 1;").fraction("solid", 1, 1);
    }

    private static void solidOfNobody() {
        CHECK.sentence("solid: when there is nobody");
        new Run(CHECK).fraction("solid", 1, 1);
        told("").fraction("solid", 1, 1);
        told("person 0;person 0;hired 0 1 9;hired 0 1 9;").fraction("solid", 0, 1).due("text", 0).fraction("solid", 1, 1);
    }

    // ---- promise 19

    private static void endsLeastAndMost() {
        CHECK.sentence("ends: 10000 and the least THE END of a PERSON (what 0), the most (1)");
        told("person 0;person 0;" + "hired 1 0 9;".repeat(4) + "prize 99;".repeat(4)).due("ends 0 0", 10000 - 90 + 396)
            .due("ends 0 1", 10000 - 90 + 396).due("ends 1 0", 10090).due("ends 1 1", 10090);
        told("person 0;person 0;hired 1 0 9;whole 1 1 0;whole 1 1 0;whole 1 1 0;prize 99;").due("ends 0 0", 10000 - 36)
            .due("ends 0 1", 10000 - 9 + 99).due("ends 1 0", 10009).due("ends 1 1", 10036 + 99);
        told("person 3;person 4;insured 0 1 2;whole 1 1 0;prize 1;").due("ends 0 0", 10003 - 4 + 1)
            .due("ends 0 1", 10003 - 2 + 10).due("ends 1 0", 10004 + 2 - 10 + 1).due("ends 1 1", 10004 + 4);
        told("person 7;").due("ends 0 0", 10007).due("ends 0 1", 10007);
        told("person 0;person 0;hired 0 1 9;draw 0 0;").due("ends 1 0", 9991).due("ends 1 1", 9991);
        told(THREE).isBad("ends 3 0").isBad("ends -1 0").isBad("ends 0 3").isBad("ends 0 -1");
    }

    private static void endsFirstToTheMost() {
        CHECK.sentence("ends: TICKETS that are drawn first by some way to the most (2; bits)");
        told("person 0;person 0;hired 1 0 9;whole 1 1 0;whole 1 1 0;").due("ends 0 2", 1).due("ends 1 2", 6);
        told("person 0;person 0;hired 1 0 1;hired 1 0 1;whole 1 1 0;").due("ends 0 2", 3).due("ends 1 2", 4);
        told("person 0;person 0;hired 1 0 1;hired 1 0 2;whole 1 1 0;").due("ends 0 2", 2).due("ends 1 2", 4);
        told("person 0;person 0;person 0;" + "hired 1 0 5;".repeat(4)).due("ends 0 2", 15).due("ends 2 2", 15)
            .then("draw 2 2").due("ends 0 2", 11).then("draw 0 0").due("ends 1 2", 10).then("draw 3 3").due("ends 1 2", 2)
            .then("draw 1 1").due("ends 0 2", 0).due("ends 1 2", 0).due("ends 2 2", 0);
        told("person 7;").due("ends 0 2", 0).isBad("ends 1 2");
    }

    // ---- promise 20

    private static void feeIsTheLeast() {
        CHECK.sentence("fee: The least FEE (0 to 9) by which the mean of THE END of its OWNER is v (-999 to 999) or more");
        Run one = told("person 10;person 10;hired 0 1 5;");
        one.due("fee 0 -999", 0).due("fee 0 10", 0).due("fee 0 11", 1).due("fee 0 12", 2).due("fee 0 18", 8).due("fee 0 19", 9)
            .due("ticket 0 3", 5).isBad("fee 0 1000").isBad("fee 0 -1000").isBad("fee 1 0").isBad("fee -1 0");
        // One day and a half in the mean: 11 and a half is no less than 11, but less than 12.
        Run two = told("person 10;person 10;hired 0 1 5;whole 1 1 0;");
        two.due("fee 0 10", 0).due("fee 0 11", 1).due("fee 0 12", 2).due("fee 0 13", 2).due("fee 0 14", 3).due("fee 0 23", 9)
            .due("fee 0 24", NONE);
        // Below 0: -8, less one day and a half of 9: -21 and a half is where it begins.
        Run below = told("person 1;person 0;hired 1 0 9;hired 0 1 0;whole 1 1 0;draw 2 0;");
        below.due("fee 1 -22", 0).due("fee 1 -21", 1).due("fee 1 -20", 1).due("fee 1 -19", 2).due("fee 1 -18", 3)
            .due("fee 1 -8", 9).due("fee 1 -7", NONE);
        Run insured = told("person 10;person 10;insured 0 1 5;");
        insured.due("fee 0 10", 0).due("fee 0 11", 1).due("fee 0 14", 1).due("fee 0 15", 2).due("fee 0 46", 9)
            .due("fee 0 47", NONE);
    }

    private static void feeByNone() {
        CHECK.sentence("fee: NONE: by none");
        told("person 10;person 10;hired 0 1 5;").due("fee 0 19", 9).due("fee 0 20", NONE).due("fee 0 999", NONE);
        told("person 10;person 10;whole 0 1 5;").due("fee 0 10", 0).due("fee 0 11", NONE);
        told("person 10;person 10;split 0 1 5;").due("fee 0 10", 0).due("fee 0 11", NONE);
        told("person 10;person 10;insured 0 1 5;prize 5;").due("fee 0 15", 0).due("fee 0 16", NONE);
        told("person 10;person 10;hired 0 0 5;").due("fee 0 10", 0).due("fee 0 11", NONE).due("ticket 0 3", 5);
    }

    private static void feeOfItsOwner() {
        CHECK.sentence("fee: THE END of its OWNER");
        told("person 10;person 30;hired 1 0 5;hired 0 1 0;").due("fee 0 30", 0).due("fee 0 31", 1).due("fee 1 2", 0)
            .due("fee 1 3", 1).due("ticket 0 3", 5).due("ticket 1 3", 0);
    }

    private static void feeOfADrawnTicket() {
        CHECK.sentence("fee: STATE: it is drawn");
        told("person 10;person 10;hired 0 1 5;whole 0 0 0;draw 0 0;").due("fee 0 0", STATE).due("fee 0 999", STATE)
            .due("fee 0 -999", STATE).due("fee 1 15", 0).due("fee 1 16", NONE);
    }

    // ---- promise 21

    private static void kindByWhichTheOwnerHasMost() {
        CHECK.sentence("kind: The KIND of a TICKET by which the mean of THE END of its OWNER is most");
        // One day: whole has the prize, hired the fee, insured the prize less the fee, but four fees by a blank.
        for (String kind : new String[] {"whole", "hired", "split", "insured"}) {
            String text = "person 0;person 0;" + kind + " 0 1 7;";
            told(text + "prize 8;").due("kind 0", 0);
            told(text + "prize 6;").due("kind 0", 1);
            told(text).due("kind 0", 3).due("ticket 0 3", 7);
        }
        told("person 0;person 9;hired 1 0 7;prize 6;").due("kind 0", 1).due("ticket 0 0", 1);
        told("person 0;person 9;hired 1 0 7;").due("kind 0", 3).due("ticket 0 0", 1).isBad("kind 1").isBad("kind -1")
            .isBad("kind LOW").isBad("kind HIGH");
    }

    private static void kindOfSeveralTheFirst() {
        CHECK.sentence("kind: of several the first");
        told("person 0;person 0;insured 0 1 0;prize 8;").due("kind 0", 0);
        told("person 0;person 0;hired 0 1 7;prize 7;").due("kind 0", 0);
        told("person 0;person 0;insured 0 1 0;").due("kind 0", 0);
        told("person 0;insured 0 0 9;").due("kind 0", 0);
        told("person 0;person 0;split 0 1 0;prize 1;").due("kind 0", 0);
        // Two days: hired has 1 and a half fees; insured half of 2, less these, and 2 and a half fees.
        told("person 0;person 0;insured 0 1 2;whole 1 1 0;prize 2;").due("kind 0", 1);
        told("person 0;person 0;insured 0 1 2;whole 1 1 0;prize 3;").due("kind 0", 3);
    }

    private static void kindOfADrawnTicket() {
        CHECK.sentence("kind: STATE: it is drawn");
        told("person 0;person 0;hired 0 1 7;hired 0 1 7;draw 0 0;").due("kind 0", STATE).due("kind 1", 3).then("draw 1 1")
            .due("kind 1", STATE);
    }

    // ---- promise 22

    private static void buyTheBest() {
        CHECK.sentence("buy: The TICKET in THE WHEEL of which to become the OWNER, so that the mean of THE END is most");
        Run run = told("person 0;person 0;split 1 1 0;whole 1 1 0;hired 1 1 9;prize 30;");
        // As owner: 5 by the split one, 10 by the whole one, two days of 9 by the hired one.
        run.due("buy 0", 2).then("sign 2 3 5").due("buy 0", 1).due("ticket 1 1", 1).due("ticket 2 1", 1).then("draw 1 1")
            .due("buy 0", 0).then("draw 0 2").due("buy 0", 2).then("draw 2 0").due("buy 0", NONE).isBad("buy 2").isBad("buy -1")
            .isBad("buy LOW").isBad("buy HIGH");
        // To be rid of what an owner has: he who owes by an insured one's blank owns it himself.
        told("person 0;person 0;insured 0 1 9;").due("buy 1", 0).due("buy 0", NONE);
    }

    private static void buyMoreThanAsItIs() {
        CHECK.sentence("buy: more than as it is. NONE: by none");
        told("person 0;person 0;whole 1 1 0;").due("buy 0", NONE).then("promise 0 1").due("buy 0", 0).due("buy 1", NONE);
        told("person 0;person 0;hired 1 1 0;prize 99;").due("buy 0", NONE).then("sign 0 3 1").due("buy 0", 0);
        // Less than as it is: he would owe the insured one's fee.
        told("person 0;person 0;insured 1 1 9;whole 1 1 0;whole 1 1 0;prize 1;prize 1;prize 1;").due("buy 0", 1)
            .then("draw 1 1", "draw 2 2").due("buy 0", NONE);
        told("person 0;").due("buy 0", NONE);
        told(THREE, ALL_DRAWN).due("buy 0", NONE).due("buy 1", NONE).due("buy 2", NONE);
    }

    private static void buyOfSeveralTheFirst() {
        CHECK.sentence("buy: of several the first");
        String four = "person 0;person 0;" + "whole 1 1 0;".repeat(4) + "prize 1;";
        told(four).due("buy 0", 0).then("draw 0 1").due("buy 0", 1).then("draw 1 2").due("buy 0", 2).then("draw 2 3")
            .due("buy 0", 3).then("draw 3 0").due("buy 0", NONE);
        told("person 0;person 0;split 1 1 0;whole 1 1 0;whole 1 1 0;prize 9;").due("buy 0", 1);
        told("person 0;person 0;whole 0 0 0;whole 1 1 0;whole 1 1 0;prize 9;").due("buy 0", 1);
    }

    // ---- promise 23

    private static void capIsTheMost() {
        CHECK.sentence("cap: The most (0 to 99) that a PRIZE in THE WHEEL can be");
        Run run = told("person 10;person 0;whole 0 0 0;");
        run.due("cap 0 0 10", 0).due("cap 0 0 11", 1).due("cap 0 0 108", 98).due("cap 0 0 109", 99).due("cap 0 0 110", 99)
            .due("cap 0 0 999", 99).due("cap 0 1 0", 99).due("prize 0 0", 0).isBad("cap 0 0 1000").isBad("cap 0 0 -1")
            .isBad("cap 1 0 5").isBad("cap -1 0 5").isBad("cap 0 2 5").isBad("cap 0 -1 5");
        told("person 0;person 0;split 0 1 0;").due("cap 0 0 0", 0).due("cap 0 0 1", 2).due("cap 0 1 0", 1).due("cap 0 1 1", 3)
            .due("cap 0 0 49", 98).due("cap 0 0 50", 99).due("cap 0 1 48", 97).due("cap 0 1 49", 99);
    }

    private static void capInNoWayMore() {
        CHECK.sentence("cap: so that THE END of a PERSON is in no way more than v (0 to 999)");
        // He has this prize or the other one of 30: by 39 he may have more, whatever this one is.
        Run run = told("person 10;person 0;whole 0 0 0;whole 1 1 0;prize 5;prize 30;");
        run.due("cap 0 0 40", 30).due("cap 0 0 41", 31).due("cap 0 0 39", NONE).due("cap 1 0 15", 5).due("cap 1 0 14", NONE)
            .due("prize 0 0", 5).due("prize 1 0", 30);
        // Both, and a fee by which he has most: two days of it.
        told("person 0;person 0;hired 0 1 9;whole 0 0 0;prize 5;").due("cap 0 0 18", 0).due("cap 0 0 20", 2).due("cap 0 0 17", NONE)
            .due("cap 1 0 22", NONE).due("cap 1 0 23", 5);
        told("person 0;person 0;whole 0 0 0;whole 0 0 0;prize 5;").due("cap 0 0 7", 7).due("cap 1 0 7", 2).due("cap 1 0 4", NONE);
    }

    private static void capByABlank() {
        CHECK.sentence("cap: a blank of an insured one, by which more is had than by a little");
        Run run = told("person 9;person 0;insured 0 1 9;");
        run.due("cap 0 0 0", NONE).due("cap 0 0 1", 1).due("cap 0 0 44", 44).due("cap 0 0 99", 99).due("cap 0 1 0", 0)
            .due("cap 0 1 8", 0).due("cap 0 1 9", 99);
    }

    private static void capIsNothingOfTheKind() {
        CHECK.sentence("cap: NONE: it can be nothing of the kind");
        told("person 10;person 0;whole 0 0 0;").due("cap 0 0 9", NONE).due("cap 0 0 0", NONE).due("cap 0 0 10", 0);
        told("person 10;person 5;whole 1 1 0;").due("cap 0 0 9", NONE).due("cap 0 0 10", 99).due("prize 0 0", 0);
        told("person 0;person 0;hired 0 1 1;").due("cap 0 0 0", NONE).due("cap 0 0 1", 99).due("cap 0 1 0", 1);
    }

    private static void capOfADrawnPrize() {
        CHECK.sentence("cap: STATE: it is drawn");
        told("person 10;person 0;whole 0 0 0;whole 1 1 0;prize 5;prize 30;draw 1 0;").due("cap 0 0 50", STATE)
            .due("cap 0 0 0", STATE).due("cap 1 0 50", 40).due("cap 1 0 0", NONE).then("draw 0 1").due("cap 1 0 50", STATE);
    }
}
