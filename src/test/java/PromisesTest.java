/** Each promise of the document by itself: what is ordinary, the edges that it names, what is wrong. */
public final class PromisesTest {
    private static final int BAD = -1, STATE = -2, FULL = -3, NONE = -4;
    private static final int LOW = Integer.MIN_VALUE, HIGH = Integer.MAX_VALUE;
    /** Three people; a hired, a split, an insured ticket; prizes of 30, 7 and a blank. */
    private static final String THREE =
        "person 10;person 20;person 5;hired 0 1 2;split 1 2 0;insured 2 0 1;prize 30;prize 7;";
    private static final String FOUR_PEOPLE = "person 1;person 2;person 3;person 4;";
    private static final String FOUR_TICKETS = "whole 0 0 0;hired 0 0 0;split 0 0 0;insured 0 0 0;";

    private static final Check CHECK = new Check();

    public static void main(String[] args) {
        newObject();
        feed();
        end();
        textThatIsTaken();
        textWithFaultsAsRead();
        textWithFaultsBehindAll();
        textToTheLastByte();
        textRefusedChangesNothing();
        fault();
        rule();
        person();
        ticket();
        prize();
        sign();
        fill();
        promise();
        draw();
        drawOfEachKind();
        worth();
        day();
        mean();
        luck();
        solid();
        ends();
        fee();
        kind();
        buy();
        cap();
        see();
        forget();
        fits();
        ask();
        drift();
        keepAndBack();
        sheet();
        lay();
        read();
        readAndTheMachine();
        readNoTimes();
        torn();
        count();
        neverThrows();
        CHECK.close("PromisesTest");
    }

    private static void due(String call, long got, long want) {
        CHECK.due(call, got, want);
    }

    private static void faultOf(String text, int fault, int place) {
        WheelTickets x = new WheelTickets();
        Check.feed(x, text);
        due("text of \"" + text + "\"", x.text(), -10 - place);
        due("fault of \"" + text + "\"", x.fault(), fault);
        due("tape behind \"" + text + "\"", x.count(3), 0);
        due("people behind \"" + text + "\"", x.rule(0), 0);
    }

    private static void taken(String text, int lines) {
        WheelTickets x = new WheelTickets();
        Check.feed(x, text);
        due("text of \"" + text + "\"", x.text(), lines);
        due("fault of \"" + text + "\"", x.fault(), 0);
        due("tape behind \"" + text + "\"", x.count(3), 0);
    }

    private static void fraction(String call, long numerator, long denominator, long wantNumerator, long wantDenominator) {
        due(call + " numerator", numerator, wantNumerator);
        due(call + " denominator", denominator, wantDenominator);
    }

    // promise 1
    private static void newObject() {
        WheelTickets x = new WheelTickets();
        for (int what = 0; what < 6; what++) {
            due("new: rule " + what, x.rule(what), 0);
        }
        due("new: no person", x.person(0, 0), BAD);
        due("new: no ticket", x.ticket(0, 0), BAD);
        due("new: no prize", x.prize(0, 0), BAD);
        due("new: purses", x.count(0), 10000);
        due("new: seen", x.count(1), 0);
        due("new: images", x.count(2), 0);
        due("new: tape", x.count(3), 0);
        due("new: sheet 0", x.count(4), NONE);
        for (int k = 0; k < 4; k++) {
            due("new: sheet of nothing", x.lay(k, 0, 0), -11);
        }
        due("new: fault", x.fault(), 0);
        due("new: torn", x.torn(), 0);
        due("new: worth", x.worth(0), NONE);
        due("new: ways", x.fits(0), 1);
        fraction("new: solid", x.solid(0), x.solid(1), 1, 1);
        due("new: back", x.back(0), STATE);
        due("BAD", WheelTickets.BAD, BAD);
        due("STATE", WheelTickets.STATE, STATE);
        due("FULL", WheelTickets.FULL, FULL);
        due("NONE", WheelTickets.NONE, NONE);
    }

    // promise 2
    private static void feed() {
        WheelTickets x = new WheelTickets();
        due("feed(-1)", x.feed(-1), BAD);
        due("feed(128)", x.feed(128), BAD);
        due("feed(LOW)", x.feed(LOW), BAD);
        due("feed(0)", x.feed(0), 1);
        due("feed(127)", x.feed(127), 2);
        for (int i = 3; i <= 160; i++) {
            due("feed " + i, x.feed(' '), i);
        }
        due("feed to a full tape", x.feed(' '), FULL);
        due("BAD comes before FULL", x.feed(128), BAD);
        due("a full tape stays", x.count(3), 160);
    }

    // promise 3
    private static void end() {
        WheelTickets x = new WheelTickets();
        due("end(0) of nothing", x.end(0), 0);
        due("end(1) of nothing", x.end(1), BAD);
        Check.feed(x, "person 12;xyz");
        due("end(-1)", x.end(-1), BAD);
        due("end beyond", x.end(14), BAD);
        due("end(HIGH)", x.end(HIGH), BAD);
        due("end of all", x.end(13), 13);
        due("end(10)", x.end(10), 13);
        due("bytes", x.count(3), 10);
        due("the first bytes stay", x.text(), 1);
        due("purse", x.person(0, 0), 10012);
        Check.feed(x, "abc");
        due("end(0)", x.end(0), 3);
        due("then bytes come from 0 on", x.feed('a'), 1);
    }

    // promise 4
    private static void textThatIsTaken() {
        taken("", 0);
        taken("     ", 0);
        taken("person 1;", 1);
        taken("  person  1  ;  ", 1);
        taken("person1;person02;", 2);
        taken("person 99;whole 0 0 9;prize 99;draw 0 0;", 4);
        taken("person 0;whole0 0 0;", 2);
        taken("whole 3 3 0;" + FOUR_PEOPLE, 5);
        taken(FOUR_PEOPLE + "whole 3 2 1;hired 0 3 9;split 1 1 00;insured 2 0 09;", 8);
        taken(FOUR_PEOPLE + "whole 3 2 1;", 5);
        taken("person 1;" + FOUR_TICKETS + "prize 1;prize 2;prize 3;prize 4;draw 3 0;draw 2 1;", 11);
        draws();
        aTextTellsAllAnew();
    }

    private static void draws() {
        // The draw stands first, but comes behind all lines: the fee of the ticket told later is paid.
        WheelTickets x = Check.told("draw 0 1;person 50;person 40;hired 0 1 3;prize 8;hired 0 1 2;draw 1 0;prize 6;");
        due("day", x.rule(2), 2);
        due("purse 0", x.person(0, 0), 10050 + 5 + 2);
        due("purse 1", x.person(1, 0), 10040 - 5 + 6 - 2 + 8);
        due("ticket 0 drew", x.ticket(0, 4), 1);
        due("ticket 1 drew", x.ticket(1, 4), 0);
    }

    private static void aTextTellsAllAnew() {
        WheelTickets x = Check.told(THREE);
        x.see(0, 5);
        x.keep(0);
        x.keep(1);
        x.sheet(0, 1, 7);
        x.draw(0, 0);
        due("what is tried leaves nothing behind", x.kind(1), 0);
        Check.feed(x, "person 3;whole 0 0 4;");
        due("a text anew", x.text(), 2);
        due("people", x.rule(0), 1);
        due("tickets", x.rule(1), 1);
        due("day", x.rule(2), 0);
        due("the prize is 0", x.prize(0, 0), 0);
        due("the prize is in", x.prize(0, 1), NONE);
        due("seen", x.count(1), 0);
        due("images", x.count(2), 0);
        due("no image", x.back(0), STATE);
        due("no image", x.back(1), STATE);
        due("sheets stay", x.count(4), 7);
        due("ways", x.fits(0), 1);
        Check.feed(x, "person 3;whole 0 0 4;whole 0 0 4;draw 0 0;");
        due("a text with a draw", x.text(), 4);
        Check.feed(x, "person 3;whole 0 0 4;whole 0 0 4;");
        due("a text with none", x.text(), 3);
        due("nothing is drawn", x.rule(2), 0);
        due("ways", x.fits(0), 4);
        due("a text of nothing", x.text(), 0);
        due("nobody", x.rule(0), 0);
        due("no tickets", x.rule(1), 0);
        due("one way", x.fits(0), 1);
    }

    private static void textWithFaultsAsRead() {
        faultOf("#", 1, 0);
        faultOf("person 1; Person 2;", 1, 10);
        faultOf("person -1;", 1, 7);
        faultOf("person\t1;", 1, 6);
        faultOf("person 1" + (char) 0, 1, 8);
        faultOf("person 1`", 1, 8);
        faultOf("person 1{", 1, 8);
        faultOf("person 1/", 1, 8);
        faultOf("person 1:", 1, 8);
        faultOf("person 100;", 1, 7);
        faultOf("person 001;", 1, 7);
        faultOf("person 1 100;", 1, 9);
        faultOf("100;", 1, 0);
        faultOf("person 1;1234567890123456789012", 1, 9);
        faultOf("persons 1;", 2, 0);
        faultOf("perso 1;", 2, 0);
        faultOf("qerson 1;", 2, 0);
        faultOf("dram 0 0;", 2, 0);
        faultOf(" x 100;", 2, 1);
        faultOf(";", 2, 0);
        faultOf("person 1;;", 2, 9);
        faultOf("7;", 2, 0);
        faultOf("person;", 2, 6);
        faultOf("person whole;", 2, 7);
        faultOf("person 1 2;", 2, 9);
        faultOf("person 1 x", 2, 9);
        faultOf("person", 2, 6);
        faultOf("person  ", 2, 8);
        faultOf("person 1", 2, 8);
        faultOf("person 1   ", 2, 11);
        faultOf("whole 0 0;", 2, 9);
        faultOf("whole 0 0 0 0;", 2, 12);
        faultOf("draw 0;", 2, 6);
        faultOf("draw 0 0 0;", 2, 9);
        faultOf("prize;", 2, 5);
        faultOf("whole 4 100 0;", 3, 6);
        faultOf("hired 0 4#", 3, 8);
        faultOf("split 0 0 10", 3, 10);
        faultOf("insured 3 3 99;", 3, 12);
        faultOf("draw 4 0;", 3, 5);
        faultOf("draw 0 04;", 3, 7);
        faultOf(FOUR_PEOPLE + "person 100;", 5, 36);
        faultOf(FOUR_PEOPLE + " person", 5, 37);
        faultOf(FOUR_TICKETS + "split 9 9 9;", 5, 50);
        faultOf("prize 1;prize 1;prize 1;prize 1;prize 1;", 5, 32);
        faultOf("draw 0 0;draw 0 0;draw 0 0;draw 0 0;draw;", 5, 36);
    }

    private static void textWithFaultsBehindAll() {
        faultOf("whole 0 0 0;", 6, 12);
        faultOf("person 1;whole 1 0 0;  ", 6, 23);
        faultOf("person 1;whole 0 1 0;", 6, 21);
        faultOf("prize 1;", 7, 8);
        faultOf("whole 0 0 0;prize 1;prize 1;", 6, 28);
        faultOf("person 1;whole 0 0 0;prize 1;prize 1;draw 3 3;", 7, 46);
        faultOf("draw 0 0;", 8, 9);
        faultOf("person 1;whole 0 0 0;draw 1 0;", 8, 30);
        faultOf("person 1;whole 0 0 0;draw 0 1;", 8, 30);
        faultOf("person 1;whole 0 0 0;draw 0 0;draw 0 0; ", 8, 40);
        faultOf("person 1;whole 0 0 0;whole 0 0 0;draw 0 0;draw 0 1;", 8, 51);
        faultOf("person 1;whole 0 0 0;whole 0 0 0;draw 0 0;draw 1 0;", 8, 51);
    }

    private static void textToTheLastByte() {
        String blanks = " ".repeat(160);
        taken(blanks, 0);
        taken(blanks.substring(9) + "person 1;", 1);
        faultOf(blanks.substring(6) + "person", 2, 160);
        faultOf(blanks.substring(8) + "person 9", 2, 160);
        faultOf("a".repeat(160), 2, 0);
        faultOf("9".repeat(160), 1, 0);
        // What end() took away is not read, though it stood there.
        WheelTickets x = new WheelTickets();
        Check.feed(x, "persons");
        x.end(6);
        due("a name that was cut", x.text(), -16);
        Check.feed(x, "person 123");
        x.end(9);
        due("a number that was cut", x.text(), -19);
        due("it is not too long", x.fault(), 2);
        Check.feed(x, "person    ");
        x.end(8);
        due("blanks that were cut", x.text(), -18);
    }

    private static void textRefusedChangesNothing() {
        WheelTickets x = Check.told(THREE);
        x.draw(0, 0);
        x.see(1, 7);
        x.keep(1);
        Check.feed(x, "person 1;whole 0 0 0;draw 0 0;draw 0 0;");
        due("refused", x.text(), -49);
        due("people stay", x.rule(0), 3);
        due("tickets stay", x.rule(3), 6);
        due("purse stays", x.person(0, 0), 10013);
        due("prize stays", x.prize(0, 0), 30);
        due("seen stays", x.count(1), 1);
        due("image stays", x.back(1), 1);
    }

    // promise 5
    private static void fault() {
        WheelTickets x = new WheelTickets();
        due("fault at first", x.fault(), 0);
        Check.feed(x, "x");
        due("fault of no text", x.fault(), 0);
        x.text();
        due("fault", x.fault(), 2);
        x.draw(9, 9);
        due("fault stays", x.fault(), 2);
        x.text();
        due("fault of the latest", x.fault(), 0);
    }

    // promise 6
    private static void rule() {
        WheelTickets x = Check.told(THREE);
        long[] first = {3, 3, 0, 7, 7, 37};
        for (int what = 0; what < 6; what++) {
            due("rule " + what, x.rule(what), first[what]);
        }
        x.draw(1, 0);
        long[] then = {3, 3, 1, 5, 6, 7};
        for (int what = 0; what < 6; what++) {
            due("rule then " + what, x.rule(what), then[what]);
        }
        due("rule(-1)", x.rule(-1), BAD);
        due("rule(6)", x.rule(6), BAD);
    }

    // promise 7
    private static void person() {
        WheelTickets x = Check.told(FOUR_PEOPLE + "whole 0 3 0;hired 0 3 9;insured 3 0 1;");
        due("purse", x.person(3, 0), 10004);
        due("owns", x.person(0, 1), 3);
        due("is the other", x.person(0, 2), 4);
        due("owns", x.person(3, 1), 4);
        due("is the other", x.person(3, 2), 3);
        due("owns none", x.person(1, 1), 0);
        due("is no other", x.person(1, 2), 0);
        x.draw(2, 0);
        due("a purse below 0", x.person(3, 0), 10000 + 4 - 9 - 1 + 5);
        due("owns what is drawn", x.person(3, 1), 4);
        x.fill(3, 0);
        x.draw(1, 1);
        due("a purse below 0", x.person(3, 0), 9991);
        due("person(-1, 0)", x.person(-1, 0), BAD);
        due("person(4, 0)", x.person(4, 0), BAD);
        due("person(0, -1)", x.person(0, -1), BAD);
        due("person(0, 3)", x.person(0, 3), BAD);
        due("only who there is", Check.told(THREE).person(3, 0), BAD);
    }

    // promise 8
    private static void ticket() {
        WheelTickets x = Check.told(THREE);
        long[][] want = {{1, 0, 1, 2, NONE}, {2, 1, 2, 0, NONE}, {3, 2, 0, 1, NONE}};
        for (int t = 0; t < 3; t++) {
            for (int what = 0; what < 5; what++) {
                due("ticket " + t + " " + what, x.ticket(t, what), want[t][what]);
            }
        }
        due("whole", Check.told("person 1;whole 0 0 7;").ticket(0, 0), 0);
        x.draw(2, 1);
        due("it drew", x.ticket(2, 4), 1);
        due("its fee stays", x.ticket(2, 3), 1);
        due("ticket(-1, 0)", x.ticket(-1, 0), BAD);
        due("ticket(3, 0)", x.ticket(3, 0), BAD);
        due("ticket(0, -1)", x.ticket(0, -1), BAD);
        due("ticket(0, 5)", x.ticket(0, 5), BAD);
    }

    // promise 9
    private static void prize() {
        WheelTickets x = Check.told(THREE);
        due("much", x.prize(0, 0), 30);
        due("much", x.prize(1, 0), 7);
        due("not told", x.prize(2, 0), 0);
        due("in the wheel", x.prize(1, 1), NONE);
        x.draw(2, 1);
        due("drawn by", x.prize(1, 1), 2);
        due("much of what is drawn", x.prize(1, 0), 7);
        due("prize(-1, 0)", x.prize(-1, 0), BAD);
        due("prize(3, 0)", x.prize(3, 0), BAD);
        due("prize(0, -1)", x.prize(0, -1), BAD);
        due("prize(0, 2)", x.prize(0, 2), BAD);
    }

    // promise 10
    private static void sign() {
        WheelTickets x = Check.told(THREE);
        due("kind was", x.sign(0, 0, 3), 1);
        due("owner was", x.sign(0, 1, 2), 0);
        due("other was", x.sign(0, 2, 0), 1);
        due("fee was", x.sign(0, 3, 9), 2);
        long[] want = {3, 2, 0, 9};
        for (int what = 0; what < 4; what++) {
            due("signed " + what, x.ticket(0, what), want[what]);
        }
        int[][] wrong = {{-1, 0, 0}, {3, 0, 0}, {0, -1, 0}, {0, 4, 0}, {0, 0, 4}, {0, 0, -1}, {0, 1, 3}, {0, 1, -1},
            {0, 2, 3}, {0, 2, -1}, {0, 3, 10}, {0, 3, -1}};
        for (int[] w : wrong) {
            due("sign " + w[0] + " " + w[1] + " " + w[2], x.sign(w[0], w[1], w[2]), BAD);
        }
        x.draw(0, 2);
        due("it is drawn", x.sign(0, 3, 1), STATE);
        due("BAD comes before STATE", x.sign(0, 3, 10), BAD);
        due("fee stays", x.ticket(0, 3), 9);
        due("another one is in", x.sign(1, 3, 1), 0);
    }

    // promise 11
    private static void fill() {
        WheelTickets x = Check.told("person 0;person 1;hired 0 1 9;");
        due("fill(0, 99)", x.fill(0, 99), 10000);
        due("filled", x.person(0, 0), 10099);
        x.draw(0, 0);
        due("it was below 0", x.fill(1, 0), 9992);
        due("filled", x.person(1, 0), 10000);
        due("fill(0, 100)", x.fill(0, 100), BAD);
        due("fill(0, -1)", x.fill(0, -1), BAD);
        due("fill(2, 1)", x.fill(2, 1), BAD);
        due("fill(-1, 1)", x.fill(-1, 1), BAD);
        due("nothing changed", x.person(0, 0), 10108);
    }

    // promise 12
    private static void promise() {
        WheelTickets x = Check.told(THREE);
        due("promise(2, 99)", x.promise(2, 99), 0);
        due("promise(0, 0)", x.promise(0, 0), 30);
        due("promised", x.prize(2, 0), 99);
        due("promised", x.rule(5), 106);
        due("promise(0, 100)", x.promise(0, 100), BAD);
        due("promise(0, -1)", x.promise(0, -1), BAD);
        due("promise(3, 1)", x.promise(3, 1), BAD);
        due("promise(-1, 1)", x.promise(-1, 1), BAD);
        x.draw(0, 2);
        due("it is drawn", x.promise(2, 1), STATE);
        due("BAD comes before STATE", x.promise(2, 100), BAD);
        due("it stays", x.prize(2, 0), 99);
        due("the ticket's number does not count", x.promise(0, 1), 0);
    }

    // promise 13
    private static void draw() {
        WheelTickets x = Check.told(THREE);
        due("draw(3, 0)", x.draw(3, 0), BAD);
        due("draw(0, 3)", x.draw(0, 3), BAD);
        due("draw(-1, 0)", x.draw(-1, 0), BAD);
        due("draw(0, -1)", x.draw(0, -1), BAD);
        due("draw(1, 0)", x.draw(1, 0), 30);
        due("the ticket is drawn", x.draw(1, 1), STATE);
        due("the prize is drawn", x.draw(0, 0), STATE);
        due("BAD comes before STATE", x.draw(1, 3), BAD);
        due("a blank", x.draw(0, 2), 0);
        due("the last", x.draw(2, 1), 7);
        due("day", x.rule(2), 3);
    }

    private static void drawOfEachKind() {
        purses("whole 0 1 9;", 5, 105, 100);
        purses("hired 0 1 9;", 5, 109, 96);
        purses("split 0 1 9;", 5, 103, 102);
        purses("split 0 1 9;", 4, 102, 102);
        purses("insured 0 1 9;", 5, 96, 109);
        purses("insured 0 1 9;", 0, 136, 64);
        purses("hired 0 0 9;", 5, 105, 100);
        purses("split 1 1 9;", 5, 100, 105);
        purses("insured 0 0 9;", 0, 100, 100);
        purses("whole 0 1 9;", 0, 100, 100);
        purses("hired 0 1 9;", 0, 109, 91);
    }

    /** Both have 100 when the third ticket alone is left; its kind is signed then, so that no fee is paid ahead. */
    private static void purses(String line, int much, int first, int second) {
        WheelTickets x = Check.told("person 99;person 99;whole 0 0 0;whole 1 1 0;" + line
            + "prize 1;prize 1;prize " + much + ";");
        x.sign(2, 0, 0);
        x.draw(0, 0);
        x.draw(1, 1);
        x.sign(2, 0, line.startsWith("hired") ? 1 : line.startsWith("split") ? 2 : line.startsWith("insured") ? 3 : 0);
        x.draw(2, 2);
        due(line + " by " + much + ", purse 0", x.person(0, 0), 10000 + first);
        due(line + " by " + much + ", purse 1", x.person(1, 0), 10000 + second);
    }

    // promise 14
    private static void worth() {
        WheelTickets x = Check.told(THREE);
        fraction("worth", x.worth(0), x.worth(1), 37, 3);
        x.promise(0, 8);
        fraction("worth in lowest terms", x.worth(0), x.worth(1), 5, 1);
        x.draw(0, 0);
        x.draw(1, 1);
        fraction("worth of a blank", x.worth(0), x.worth(1), 0, 1);
        x.draw(2, 2);
        due("there are none", x.worth(0), NONE);
        due("there are none", x.worth(1), NONE);
        due("worth(2)", x.worth(2), BAD);
        due("worth(-1)", x.worth(-1), BAD);
    }

    // promise 15
    private static void day() {
        WheelTickets x = Check.told(THREE);
        fraction("day of 0", x.day(0, 0), x.day(0, 1), 37, 9);
        fraction("day of 2", x.day(2, 0), x.day(2, 1), 37, 9);
        x.draw(1, 1);
        fraction("day then", x.day(0, 0), x.day(0, 1), 15, 2);
        due("it is drawn", x.day(1, 0), STATE);
        due("BAD comes before STATE", x.day(1, 2), BAD);
        due("day(3, 0)", x.day(3, 0), BAD);
        due("day(-1, 0)", x.day(-1, 0), BAD);
        due("day(0, -1)", x.day(0, -1), BAD);
        x.draw(2, 0);
        fraction("day of a blank", x.day(0, 0), x.day(0, 1), 0, 1);
    }

    // promise 16
    private static void mean() {
        WheelTickets x = Check.told(THREE);
        fraction("mean of 0", x.mean(0, 0), x.mean(0, 1), 43, 3);
        fraction("mean of 1", x.mean(1, 0), x.mean(1, 1), 104, 3);
        fraction("mean of 2", x.mean(2, 0), x.mean(2, 1), 23, 1);
        due("mean(3, 0)", x.mean(3, 0), BAD);
        due("mean(-1, 0)", x.mean(-1, 0), BAD);
        due("mean(0, 2)", x.mean(0, 2), BAD);
        due("mean(0, -1)", x.mean(0, -1), BAD);
        // 3 less one and a half days of 9, and the prize of 1 by one of two.
        WheelTickets y = Check.told("person 0;person 3;hired 0 1 9;whole 0 0 0;prize 1;");
        fraction("mean below 0", y.mean(1, 0), y.mean(1, 1), -10, 1);
        y.sign(0, 3, 8);
        y.promise(0, 0);
        y.fill(1, 0);
        fraction("mean below 0", y.mean(1, 0), y.mean(1, 1), -12, 1);
        y.promise(0, 1);
        fraction("mean by halves", y.mean(1, 0), y.mean(1, 1), -23, 2);
        y.draw(1, 0);
        y.draw(0, 1);
        fraction("mean when all is drawn", y.mean(1, 0), y.mean(1, 1), -16, 1);
        y.fill(1, 0);
        fraction("mean 0", y.mean(1, 0), y.mean(1, 1), 0, 1);
    }

    // promise 17
    private static void luck() {
        // Ends of person 0: 5 and 10 by one of three, 5 by two.
        WheelTickets x = Check.told("person 5;whole 0 0 0;person 0;whole 1 1 0;whole 1 1 0;prize 10;");
        fraction("luck 5", x.luck(0, 5, 0), x.luck(0, 5, 1), 1, 1);
        fraction("luck 6", x.luck(0, 6, 0), x.luck(0, 6, 1), 1, 3);
        fraction("luck 15", x.luck(0, 15, 0), x.luck(0, 15, 1), 1, 3);
        fraction("luck 16", x.luck(0, 16, 0), x.luck(0, 16, 1), 0, 1);
        fraction("luck 999", x.luck(0, 999, 0), x.luck(0, 999, 1), 0, 1);
        fraction("luck -999", x.luck(0, -999, 0), x.luck(0, -999, 1), 1, 1);
        fraction("luck of 1", x.luck(1, 1, 0), x.luck(1, 1, 1), 2, 3);
        due("luck(0, 1000, 0)", x.luck(0, 1000, 0), BAD);
        due("luck(0, -1000, 0)", x.luck(0, -1000, 0), BAD);
        due("luck(2, 0, 0)", x.luck(2, 0, 0), BAD);
        due("luck(-1, 0, 0)", x.luck(-1, 0, 0), BAD);
        due("luck(0, 0, 2)", x.luck(0, 0, 2), BAD);
        due("luck(0, 0, -1)", x.luck(0, 0, -1), BAD);
        // A fee of 4 for one day or two, by the order of tickets.
        WheelTickets y = Check.told("person 8;person 0;hired 1 0 4;whole 1 1 0;");
        fraction("luck by the order", y.luck(0, 1, 0), y.luck(0, 1, 1), 1, 2);
        fraction("luck by the order", y.luck(0, 0, 0), y.luck(0, 0, 1), 1, 1);
        WheelTickets four = Check.told("person 5;person 0;whole 0 0 0;whole 1 1 0;whole 1 1 0;hired 1 0 3;prize 10;");
        // Person 0 has the prize by two of four; else 5 less 3, 6, 9, 12.
        fraction("luck of four", four.luck(0, 0, 0), four.luck(0, 0, 1), 5, 8);
        fraction("luck of four", Check.told("person 5;").luck(0, 5, 0), Check.told("person 5;").luck(0, 5, 1), 1, 1);
    }

    // promise 18
    private static void solid() {
        WheelTickets x = Check.told("person 5;person 7;hired 1 0 4;hired 0 1 6;prize 0;prize 9;");
        // The prize of 9: by 0 (ticket 0) or by 1 (ticket 1); one ticket's fee is paid once, the other's twice.
        // Ticket 0 first: 0 pays 4, has 12; ticket 1 first: 0 pays 8, has 6.
        // 0: 5 + 8 or 5 - 2, and 9 or not: never below 0. 1: 7 - 8 or 7 + 2, and 9 or not: once below.
        fraction("solid", x.solid(0), x.solid(1), 3, 4);
        x.fill(1, 8);
        fraction("solid at 0", x.solid(0), x.solid(1), 1, 1);
        x.fill(0, 1);
        x.fill(1, 7);
        // 0 is below 0 once too, in another way: order 1 first, prize to 1.
        fraction("solid of both", x.solid(0), x.solid(1), 1, 2);
        x.promise(1, 0);
        fraction("nobody is solid", x.solid(0), x.solid(1), 0, 1);
        due("solid(2)", x.solid(2), BAD);
        due("solid(-1)", x.solid(-1), BAD);
        WheelTickets done = Check.told("person 0;person 0;hired 0 1 1;draw 0 0;");
        fraction("ruined already", done.solid(0), done.solid(1), 0, 1);
    }

    // promise 19
    private static void ends() {
        WheelTickets x = Check.told(THREE);
        long[][] want = {{10009, 10018, 2}, {10018, 10052, 1}};
        for (int p = 0; p < 2; p++) {
            for (int what = 0; what < 3; what++) {
                due("ends " + p + " " + what, x.ends(p, what), want[p][what]);
            }
        }
        due("ends(3, 0)", x.ends(3, 0), BAD);
        due("ends(-1, 0)", x.ends(-1, 0), BAD);
        due("ends(0, 3)", x.ends(0, 3), BAD);
        due("ends(0, -1)", x.ends(0, -1), BAD);
        WheelTickets y = Check.told("person 2;person 0;hired 1 0 3;whole 0 0 0;hired 1 0 3;whole 1 1 0;prize 4;");
        due("least below 0", y.ends(0, 0), 10000 + 2 - 21);
        due("most", y.ends(0, 1), 10000 + 2 - 9 + 4);
        due("first to the most", y.ends(0, 2), 5);
        due("first to the most of the other", y.ends(1, 2), 10);
        y.draw(0, 1);
        due("of those in the wheel", y.ends(0, 2), 4);
        WheelTickets two = Check.told("person 2;person 0;hired 1 0 3;whole 1 1 0;");
        due("the least of two", two.ends(0, 0), 10000 + 2 - 6);
        due("the most of two", two.ends(0, 1), 10000 + 2 - 3);
        due("the least of two, the other", two.ends(1, 0), 10003);
        due("the most of two, the other", two.ends(1, 1), 10006);
        two.draw(0, 0);
        due("the last one is first", two.ends(0, 2), 2);
        WheelTickets z = Check.told("person 1;whole 0 0 0;whole 0 0 0;whole 0 0 0;");
        due("all alike", z.ends(0, 2), 7);
        z.draw(0, 0);
        z.draw(1, 1);
        z.draw(2, 2);
        due("all drawn: least", z.ends(0, 0), 10001);
        due("all drawn: most", z.ends(0, 1), 10001);
        due("all drawn: none is first", z.ends(0, 2), 0);
    }

    // promise 20
    private static void fee() {
        WheelTickets x = Check.told("person 10;person 10;hired 0 1 9;insured 0 1 0;whole 1 1 0;prize 6;");
        // A hired ticket's fee is had for two days in the mean; the insured ticket brings 2 by its prize.
        due("fee 12", x.fee(0, 12), 0);
        due("fee 13", x.fee(0, 13), 1);
        due("fee 14", x.fee(0, 14), 1);
        due("fee 15", x.fee(0, 15), 2);
        due("fee 30", x.fee(0, 30), 9);
        due("fee 31", x.fee(0, 31), NONE);
        due("fee -999", x.fee(0, -999), 0);
        due("the fee stays", x.ticket(0, 3), 9);
        // Insured: two days' fees less, five times the fee by two of three: 4/3 of the fee; 30 as it is.
        due("fee of an insured one", x.fee(1, 30), 0);
        due("fee of an insured one", x.fee(1, 31), 1);
        due("fee of an insured one", x.fee(1, 42), 9);
        due("fee of an insured one", x.fee(1, 43), NONE);
        due("fee of a whole one", x.fee(2, -8), 0);
        due("fee of a whole one", x.fee(2, 999), NONE);
        due("fee(3, 0)", x.fee(3, 0), BAD);
        due("fee(-1, 0)", x.fee(-1, 0), BAD);
        due("fee(0, 1000)", x.fee(0, 1000), BAD);
        due("fee(0, -1000)", x.fee(0, -1000), BAD);
        x.draw(0, 0);
        due("it is drawn", x.fee(0, 0), STATE);
        due("BAD comes before STATE", x.fee(0, 1000), BAD);
    }

    // promise 21
    private static void kind() {
        // One ticket: whole 8; hired: the fee; split 4; insured: 8 less the fee.
        WheelTickets x = Check.told("person 0;person 0;split 0 1 7;prize 8;");
        due("whole", x.kind(0), 0);
        due("the kind stays", x.ticket(0, 0), 2);
        x.promise(0, 7);
        due("whole of two alike", x.kind(0), 0);
        x.promise(0, 6);
        due("hired", x.kind(0), 1);
        x.promise(0, 0);
        due("insured by a blank", x.kind(0), 3);
        x.sign(0, 3, 0);
        due("all alike", x.kind(0), 0);
        due("kind(1)", x.kind(1), BAD);
        due("kind(-1)", x.kind(-1), BAD);
        x.draw(0, 0);
        due("it is drawn", x.kind(0), STATE);
        due("the same person is both", Check.told("person 0;insured 0 0 9;").kind(0), 0);
    }

    // promise 22
    private static void buy() {
        WheelTickets x = Check.told("person 0;person 0;split 1 0 0;whole 1 1 0;whole 1 1 0;insured 0 1 9;prize 20;");
        // 5 in the mean by a whole ticket, 2.5 by the half of a split one.
        due("of several the first", x.buy(0), 1);
        due("owners stay", x.ticket(1, 1), 1);
        x.draw(1, 1);
        due("of those in the wheel", x.buy(0), 2);
        // As the other of the insured one 1 has two days of 9 and pays 45 by two of three; as both, nothing.
        due("the insured one", x.buy(1), 3);
        // With a fee of 0 and two whole tickets of his own, only the split one's half and the prize are to be had.
        x.sign(3, 3, 0);
        x.sign(3, 1, 1);
        due("what is his already", x.buy(1), NONE);
        due("no more than as it is", Check.told("person 0;person 0;whole 1 1 0;").buy(0), NONE);
        due("the first one", Check.told("person 0;person 0;whole 1 1 0;whole 1 1 0;prize 1;").buy(0), 0);
        due("he has it", Check.told("person 0;whole 0 0 0;prize 9;").buy(0), NONE);
        due("no ticket", Check.told("person 0;").buy(0), NONE);
        due("buy(2)", x.buy(2), BAD);
        due("buy(-1)", x.buy(-1), BAD);
        due("all drawn", Check.told("person 0;person 1;whole 1 1 0;prize 9;draw 0 0;").buy(0), NONE);
    }

    // promise 23
    private static void cap() {
        WheelTickets x = Check.told("person 10;person 0;whole 0 0 0;whole 1 1 0;prize 5;prize 30;");
        due("cap 50", x.cap(0, 0, 50), 40);
        due("cap 40", x.cap(0, 0, 40), 30);
        due("cap below what the other brings", x.cap(0, 0, 39), NONE);
        due("cap 999", x.cap(0, 0, 999), 99);
        due("cap 15", x.cap(1, 0, 15), 5);
        due("cap 14", x.cap(1, 0, 14), NONE);
        due("the prize stays", x.prize(0, 0), 5);
        due("cap(2, 0, 0)", x.cap(2, 0, 0), BAD);
        due("cap(-1, 0, 0)", x.cap(-1, 0, 0), BAD);
        due("cap(0, 2, 0)", x.cap(0, 2, 0), BAD);
        due("cap(0, -1, 0)", x.cap(0, -1, 0), BAD);
        due("cap(0, 0, -1)", x.cap(0, 0, -1), BAD);
        due("cap(0, 0, 1000)", x.cap(0, 0, 1000), BAD);
        x.draw(1, 0);
        due("it is drawn", x.cap(0, 0, 50), STATE);
        due("BAD comes before STATE", x.cap(0, 0, 1000), BAD);
        due("the last one", x.cap(1, 0, 50), 40);
        // A blank brings the owner 45 less 9, a prize of x brings him x - 9.
        WheelTickets y = Check.told("person 9;person 0;insured 0 1 9;");
        due("cap of an insured one", y.cap(0, 0, 20), 20);
        due("cap of an insured one, by no blank", y.cap(0, 0, 1), 1);
        due("cap of an insured one", y.cap(0, 0, 0), NONE);
        due("cap by another's purse", y.cap(0, 1, 9), 99);
        due("cap by another's purse", y.cap(0, 1, 8), 0);
        WheelTickets z = Check.told("person 0;person 0;split 0 1 0;");
        due("half up", z.cap(0, 0, 3), 6);
        due("the rest", z.cap(0, 1, 3), 7);
    }

    // promise 24
    private static void see() {
        WheelTickets x = Check.told(THREE);
        due("see(3, 0)", x.see(3, 0), BAD);
        due("see(-1, 0)", x.see(-1, 0), BAD);
        due("see(0, 1000)", x.see(0, 1000), BAD);
        due("see(0, -1000)", x.see(0, -1000), BAD);
        due("nothing is seen", x.count(1), 0);
        int[] ends = {999, -999, 0, 0, 5, 6};
        for (int i = 0; i < 6; i++) {
            due("see " + i, x.see(i % 3, ends[i]), i + 1);
        }
        due("the seventh", x.see(0, 0), FULL);
        due("BAD comes before FULL", x.see(0, 1000), BAD);
        due("six", x.count(1), 6);
        due("nobody", new WheelTickets().see(0, 0), BAD);
    }

    // promise 25
    private static void forget() {
        WheelTickets x = Check.told("person 5;person 6;whole 0 0 0;");
        due("forget(0) of none", x.forget(0), 0);
        due("forget(1) of none", x.forget(1), BAD);
        x.see(0, 5);
        x.see(1, 7);
        x.see(1, 6);
        due("it does not fit", x.fits(0), 0);
        due("forget(4)", x.forget(4), BAD);
        due("forget(-1)", x.forget(-1), BAD);
        due("forget(3)", x.forget(3), 3);
        due("forget(1)", x.forget(1), 3);
        due("one is seen", x.count(1), 1);
        due("the first fits", x.fits(0), 1);
        due("see anew", x.see(1, 6), 2);
        due("it fits", x.fits(0), 1);
        due("forget(0)", x.forget(0), 2);
    }

    // promise 26
    private static void fits() {
        WheelTickets x = Check.told("person 5;person 0;whole 0 0 0;whole 1 1 0;whole 1 1 0;prize 10;prize 4;");
        due("all ways", x.fits(0), 36);
        due("all prizes", x.fits(10), 7);
        x.see(0, 9);
        due("ways", x.fits(0), 12);
        due("prizes of 0", x.fits(10), 2);
        due("prizes of 1", x.fits(11), 5);
        due("prizes of 2", x.fits(12), 5);
        x.see(1, 10);
        due("ways of both", x.fits(0), 12);
        x.see(1, 9);
        due("no ways", x.fits(0), 0);
        due("no prizes", x.fits(11), 0);
        x.forget(1);
        x.draw(2, 0);
        due("ways then", x.fits(0), 2);
        due("the one that is drawn", x.fits(12), 1);
        due("prizes of 1 then", x.fits(11), 4);
        for (int what : new int[] {-1, 1, 2, 9, 13, 14, LOW, LOW + 10, HIGH}) {
            due("fits(" + what + ")", x.fits(what), BAD);
        }
        x.draw(0, 1);
        x.draw(1, 2);
        due("all drawn, as seen", x.fits(0), 1);
        x.forget(0);
        x.see(0, 8);
        due("all drawn, not as seen", x.fits(0), 0);
        due("four", Check.told("person 1;" + FOUR_TICKETS).fits(0), 576);
        // By the order of tickets: 4 paid on one day or on two.
        WheelTickets y = Check.told("person 8;person 0;hired 1 0 4;whole 1 1 0;");
        y.see(0, 4);
        due("ways by the order", y.fits(0), 2);
        due("prizes by the order", y.fits(10), 3);
    }

    // promise 27
    private static void ask() {
        WheelTickets x = Check.told("person 5;person 0;whole 0 0 0;whole 1 1 0;whole 1 1 0;prize 10;prize 4;");
        due("ask", x.ask(0), 0);
        due("left", x.ask(1), 12);
        x.see(0, 9);
        due("ask one that is not known", x.ask(0), 1);
        due("left", x.ask(1), 6);
        due("ask(2)", x.ask(2), BAD);
        due("ask(-1)", x.ask(-1), BAD);
        x.draw(1, 2);
        due("all is known", x.ask(0), NONE);
        due("all is known", x.ask(1), NONE);
        x.see(0, 8);
        due("no way fits", x.ask(0), NONE);
        due("no tickets", Check.told("person 1;").ask(0), NONE);
        // Seen is 1 of prizes 1, 1, 2, 0: ticket 0 drew one of two, the others one of four.
        WheelTickets y = Check.told("person 0;person 9;whole 0 0 0;whole 1 1 0;whole 1 1 0;whole 1 1 0;prize 1;prize 1;prize 2;");
        y.see(0, 1);
        due("ways", y.fits(0), 288);
        due("the first of the best", y.ask(0), 1);
        due("left at the worst", y.ask(1), 96);
    }

    // promise 28
    private static void drift() {
        WheelTickets x = Check.told(THREE);
        due("drift(7, 0)", x.drift(7, 0), 10017);
        due("drift(7, 1)", x.drift(7, 1), 10046);
        due("drift(8, 2)", x.drift(8, 2), 10032);
        due("nothing is drawn by it", x.rule(2), 0);
        due("drift(1, 3)", x.drift(1, 3), BAD);
        due("drift(1, -1)", x.drift(1, -1), BAD);
        for (int seed : new int[] {LOW, -1, 0, HIGH}) {
            int sum = x.drift(seed, 0) + x.drift(seed, 1) + x.drift(seed, 2);
            due("all prizes are had, by seed " + seed, sum, 30000 + 35 + 37);
        }
        x.draw(0, 0);
        x.draw(1, 1);
        // Only one way is left: the insured ticket draws the blank.
        due("the last one", x.drift(99, 2), x.ends(2, 1));
        x.draw(2, 2);
        due("all drawn", x.drift(5, 0), x.person(0, 0));
    }

    // promises 29 and 30
    private static void keepAndBack() {
        WheelTickets x = Check.told(THREE);
        due("keep(-1)", x.keep(-1), BAD);
        due("keep(2)", x.keep(2), BAD);
        due("back(-1)", x.back(-1), BAD);
        due("back(2)", x.back(2), BAD);
        due("back of none", x.back(0), STATE);
        x.see(1, 5);
        due("keep(0)", x.keep(0), 0);
        due("back of the other", x.back(1), STATE);
        x.see(2, 6);
        x.sign(0, 3, 9);
        x.promise(2, 44);
        x.draw(1, 2);
        due("keep(1)", x.keep(1), 0);
        due("keep(1) again", x.keep(1), 1);
        due("back(0)", x.back(0), 0);
        due("seen", x.count(1), 1);
        due("fee", x.ticket(0, 3), 2);
        due("prize", x.prize(2, 0), 0);
        due("in the wheel", x.rule(3), 7);
        due("prizes in it", x.rule(4), 7);
        due("purses", x.count(0), 10035);
        due("back(1)", x.back(1), 1);
        due("seen", x.count(1), 2);
        due("prize", x.prize(2, 1), 1);
        due("ticket", x.ticket(1, 4), 2);
        due("purses", x.count(0), 10079);
        x.fill(0, 99);
        due("an image does not change", x.back(1), 1);
        due("purses", x.count(0), 10079);
        due("images", x.count(2), 2);
    }

    // promise 31
    private static void sheet() {
        WheelTickets x = new WheelTickets();
        int[][] wrong = {{-1, 0, 1}, {4, 0, 1}, {0, -1, 1}, {0, 3, 1}, {0, 0, 41}, {0, 0, HIGH}, {4, 0, -1}, {0, 3, -1}};
        for (int[] w : wrong) {
            due("sheet " + w[0] + " " + w[1] + " " + w[2], x.sheet(w[0], w[1], w[2]), BAD);
        }
        due("size below 0", x.sheet(0, 0, -1), -14);
        due("size far below 0", x.sheet(3, 2, LOW), -14);
        due("still nothing", x.count(4), NONE);
        due("no cells", x.sheet(0, 2, 0), 1);
        due("no cells", x.count(4), 0);
        due("40 cells", x.sheet(0, 1, 40), 1);
        due("40 cells", x.count(4), 40);
        due("refused", x.sheet(0, 0, -1), -14);
        due("it stays", x.count(4), 40);
        WheelTickets y = Check.told("person 0;whole 0 0 0;whole 0 0 0;");
        y.sheet(1, 0, 2);
        y.lay(1, 0, 1);
        y.sheet(1, 0, 2);
        due("cells are 0 anew", y.read(1, 0, 0, 1), 1);
        due("ticket 0 is drawn", y.rule(3), 2);
    }

    // promise 32
    private static void lay() {
        WheelTickets x = Check.told("person 0;whole 0 0 0;whole 0 0 0;");
        due("lay(-1, 0, 0)", x.lay(-1, 0, 0), BAD);
        due("lay(4, 0, 0)", x.lay(4, 0, 0), BAD);
        due("nothing", x.lay(0, -1, 0), -11);
        x.sheet(0, 0, 2);
        due("index below", x.lay(0, -1, 0), -12);
        due("index beyond", x.lay(0, 2, 0), -12);
        due("lay", x.lay(0, 1, 5), 1);
        lowestBits(0, 256, 257, true);
        lowestBits(0, 128, 0, false);
        lowestBits(0, -1, 0, false);
        lowestBits(1, 256, 0, false);
        lowestBits(1, 65536, 65537, true);
        lowestBits(2, 65536, 0, false);
        lowestBits(2, 1, 0, true);
        lowestBits(2, LOW, 0, false);
    }

    private static void lowestBits(int lane, int ticket, int prize, boolean drawn) {
        WheelTickets x = Check.told("person 0;whole 0 0 0;whole 0 0 0;");
        x.sheet(2, lane, 2);
        due("lay", x.lay(2, 0, ticket), 1);
        due("lay", x.lay(2, 1, prize), 1);
        due("cells " + ticket + ", " + prize + " of lane " + lane, x.read(2, lane, 0, 1), drawn ? 1 : -20);
    }

    private static WheelTickets withSheet(int... cells) {
        WheelTickets x = Check.told("person 50;person 0;hired 1 0 1;whole 0 0 0;whole 0 0 0;prize 4;prize 5;prize 6;");
        x.sheet(0, 1, cells.length);
        for (int i = 0; i < cells.length; i++) {
            x.lay(0, i, cells[i]);
        }
        return x;
    }

    // promise 33
    private static void read() {
        WheelTickets x = withSheet(9, 1, 2, 0, 1, 2, 0);
        due("read(-1, ..)", x.read(-1, 1, 1, 1), BAD);
        due("read(4, ..)", x.read(4, 1, 1, 1), BAD);
        due("lane -1", x.read(0, -1, 1, 1), BAD);
        due("lane 3", x.read(0, 3, 1, 1), BAD);
        due("n -1", x.read(0, 1, 1, -1), BAD);
        due("n 21", x.read(0, 1, 1, 21), BAD);
        due("none", x.read(0, 1, 1, 0), 0);
        due("two", x.read(0, 1, 1, 2), 2);
        due("ticket 1 drew", x.ticket(1, 4), 2);
        due("ticket 0 drew", x.ticket(0, 4), 1);
        due("purse", x.person(0, 0), 10000 + 50 - 1 + 6 - 1 + 5);
        due("drawn already", x.read(0, 1, 1, 3), -20);
        due("the last", x.read(0, 1, 5, 1), 1);
        due("day", x.rule(2), 3);
        WheelTickets y = withSheet(1, 2, 0, 1, 1, 0, 3, 0);
        due("the third is refused", y.read(0, 1, 0, 3), -22);
        due("then none is", y.rule(2), 0);
        due("purse", y.person(0, 0), 10050);
        due("refused ahead of the machine", y.read(0, 1, 0, 20), -22);
        due("of what there is not", y.read(0, 1, 6, 1), -20);
        WheelTickets z = withSheet(1, 2, 0, 1, 2, 0);
        due("to the last cell", z.read(0, 1, 0, 3), 3);
        due("no fault", z.torn(), 0);
        due("a prize that there is not", withSheet(1, -1).read(0, 1, 0, 1), -20);
    }

    private static void readAndTheMachine() {
        WheelTickets x = withSheet(1, 2, 0, 1, 2);
        due("the third is not whole", x.read(0, 1, 0, 3), 2);
        due("index", x.torn(), 2);
        due("those ahead are drawn", x.rule(3), 4);
        due("behind the end", x.read(0, 1, 5, 1), 0);
        due("index", x.torn(), 2);
        WheelTickets y = withSheet(1, 2);
        for (int f : new int[] {-1, -2, 2, LOW, HIGH, HIGH - 1}) {
            due("from cell " + f, y.read(0, 1, f, 1), 0);
            due("index", y.torn(), 2);
        }
        due("half a pair", y.read(0, 1, 1, 1), 0);
        due("index", y.torn(), 2);
        due("another lane", y.read(0, 2, 0, 1), 0);
        due("cast", y.torn(), 3);
        due("another lane comes before the index", y.read(0, 0, 9, 1), 0);
        due("cast", y.torn(), 3);
        for (int lane = 0; lane < 3; lane++) {
            due("nothing", y.read(1, lane, -1, 1), 0);
            due("null", y.torn(), 1);
        }
        due("nothing was drawn", y.rule(2), 0);
        y.sheet(3, 1, 0);
        due("no cells", y.read(3, 1, 0, 1), 0);
        due("index", y.torn(), 2);
        due("another lane without cells", y.read(3, 0, 0, 1), 0);
        due("cast", y.torn(), 3);
    }

    /** What is read no times gives the machine nothing to refuse: of whatever sheet, as of whatever lane, from wherever. */
    private static void readNoTimes() {
        WheelTickets x = withSheet(1, 2);
        x.sheet(1, 0, 0);
        x.sheet(2, 2, 3);
        for (int k = 0; k < 4; k++) {
            for (int lane = 0; lane < 3; lane++) {
                for (int f : new int[] {0, 1, 2, -1, LOW, HIGH}) {
                    x.read(0, 2, 0, 1);
                    due("cast ahead", x.torn(), 3);
                    String call = "read(" + k + ", " + lane + ", " + f + ", 0)";
                    due(call, x.read(k, lane, f, 0), 0);
                    due("torn() behind " + call, x.torn(), 0);
                }
            }
        }
        due("nothing was drawn", x.rule(2), 0);
        x.read(0, 2, 0, 1);
        due("no such sheet", x.read(4, 0, 0, 0), BAD);
        due("no such lane", x.read(0, 3, 0, 0), BAD);
        due("these came to no end", x.torn(), 3);
    }

    // promise 34
    private static void torn() {
        WheelTickets x = withSheet(1, 2, 7, 7);
        due("torn at first", x.torn(), 0);
        x.read(0, 1, 4, 1);
        due("torn", x.torn(), 2);
        due("BAD", x.read(0, 1, 0, 21), BAD);
        due("that one came to no end", x.torn(), 2);
        due("refused", x.read(0, 1, 2, 1), -20);
        due("that one came to no end", x.torn(), 2);
        x.sheet(0, 1, -1);
        x.lay(1, 0, 0);
        due("sheet() and lay() do not count", x.torn(), 2);
        due("read", x.read(0, 1, 0, 1), 1);
        due("whole", x.torn(), 0);
    }

    // promise 35
    private static void count() {
        WheelTickets x = Check.told(THREE);
        due("purses", x.count(0), 10035);
        x.draw(1, 0);
        due("purses with the prize", x.count(0), 10065);
        x.see(0, 0);
        due("seen", x.count(1), 1);
        x.keep(1);
        due("images", x.count(2), 1);
        x.feed('a');
        due("tape", x.count(3), 1);
        due("nothing", x.count(4), NONE);
        x.sheet(1, 0, 3);
        due("another sheet", x.count(4), NONE);
        x.sheet(0, 0, 3);
        due("cells", x.count(4), 3);
        due("count(5)", x.count(5), BAD);
        due("count(-1)", x.count(-1), BAD);
        WheelTickets y = Check.told("person 0;person 0;hired 0 1 9;draw 0 0;");
        due("9 and -9", y.count(0), 10000);
    }

    /** Any arguments in any state: nothing may be thrown, whatever is answered. */
    private static void neverThrows() {
        int[] wild = {LOW, LOW + 1, -1001, -1, 0, 1, 2, 3, 4, 5, 10, 13, 14, 20, 40, 41, 999, HIGH - 1, HIGH};
        String[] texts = {"", "person 1;", THREE, FOUR_PEOPLE + FOUR_TICKETS + "draw 0 0;", FOUR_PEOPLE + FOUR_TICKETS};
        for (String text : texts) {
            WheelTickets x = Check.told(text);
            for (int a = 0; a < 4; a++) {
                oneNumber(x, a);
                x.ends(a, 2);
                x.cap(3, a, 999);
                x.fits(10 + a);
                CHECK.that("no more ways than there are", x.luck(a, 0, 1) <= 576);
            }
            for (int a : wild) {
                oneNumber(x, a);
                for (int b : wild) {
                    twoNumbers(x, a, b);
                    for (int c : wild) {
                        threeNumbers(x, a, b, c);
                    }
                }
            }
            CHECK.that("nothing is thrown", x.rule(0) >= 0);
        }
    }

    private static void oneNumber(WheelTickets x, int a) {
        x.feed(a);
        x.end(a);
        x.rule(a);
        x.worth(a);
        x.solid(a);
        x.kind(a);
        x.buy(a);
        x.fits(a);
        x.ask(a);
        x.forget(a);
        x.keep(a);
        x.back(a);
        x.count(a);
    }

    private static void twoNumbers(WheelTickets x, int a, int b) {
        x.person(a, b);
        x.ticket(a, b);
        x.prize(a, b);
        x.fill(a, b);
        x.promise(a, b);
        x.day(a, b);
        x.mean(a, b);
        x.ends(a, b);
        x.fee(a, b);
        x.see(a, b);
        x.drift(a, b);
        x.draw(a, b);
    }

    private static void threeNumbers(WheelTickets x, int a, int b, int c) {
        x.sign(a, b, c);
        x.luck(a, b, c);
        x.cap(a, b, c);
        x.sheet(a, b, c);
        x.lay(a, b, c);
        x.read(a, b, c, 1);
        x.read(a, b, c, 20);
        x.read(a, b, 0, c);
    }
}
