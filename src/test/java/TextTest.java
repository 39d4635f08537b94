/** THE TAPE, its grammar and its FAULTS, feed(), end(), text(), fault(): a test of each sentence that names a boundary. */
public final class TextTest {
    private static final int STATE = Run.STATE, FULL = Run.FULL, NONE = Run.NONE;
    private static final int TAPE = 160;
    private static final String[] TICKET_WORDS = {"whole", "hired", "split", "insured"};
    private static final String[] WORDS = {"person", "whole", "hired", "split", "insured", "prize", "draw"};
    /** The least numbers of a line of each word, by order. */
    private static final String[] NUMBERS = {" 0", " 0 0 0", " 0 0 0", " 0 0 0", " 0 0 0", " 0", " 0 0"};
    private static final Check CHECK = new Check();

    public static void main(String[] args) {
        feedOfAByte();
        feedToTheLastPlace();
        endKeepsTheFirst();
        endIsBad();
        textOfTheWholeTape();
        textEmptiesTheTape();
        textTellsHowManyLines();
        placesFromZero();
        tokensAsLongAsMayBe();
        blanksBetween();
        eachByteAlone();
        eachByteBehindAToken();
        numbersOfOneOrTwoFigures();
        linesOfEachWord();
        namesThatBeginNoLine();
        theEndIsTheLength();
        boundsOfOwnersAndOthers();
        boundsOfFees();
        boundsOfPursesAndPrizes();
        boundsOfDraws();
        theFifthPerson();
        theFifthTicket();
        theFifthPrize();
        theFifthDraw();
        theFirstFaultMet();
        aTokenIsReadWhenTheOneBeforeIsTaken();
        aPersonThatThereIsNot();
        morePrizesThanTickets();
        aDrawThatIsRefused();
        behindAllByOrder();
        drawsBehindAllLines();
        prizesToldComeFirst();
        inPlaceOfWhatThereWas();
        nothingIsSeenThen();
        imagesAreGone();
        whatWasToldStays();
        faultOfTheLatest();
        CHECK.close("TextTest");
    }

    /** The text is refused, and what was told ahead of it stays. */
    private static void refused(String text, int fault, int place) {
        Run.told(CHECK, "person 9;").feed(text).due("text", -10 - place).due("fault", fault).due("count 3", 0)
            .due("rule 0", 1).due("person 0 0", 10009);
    }

    private static Run taken(String text, int lines) {
        return Run.told(CHECK, "person 9;person 9;").feed(text).due("text", lines).due("fault", 0).due("count 3", 0);
    }

    private static String people(int n) {
        return "person 5;".repeat(n);
    }

    private static String tickets(int n) {
        return "whole 0 0 0;".repeat(n);
    }

    private static String blanks(int n) {
        return " ".repeat(n);
    }

    // ---- promises 2 to 4

    private static void feedOfAByte() {
        CHECK.sentence("feed: A byte (0 to 127) comes behind THE TAPE: how many it has. BAD");
        new Run(CHECK).due("feed 0", 1).due("feed 127", 2).isBad("feed -1").isBad("feed 128").isBad("feed 255")
            .isBad("feed 256").isBad("feed LOW").isBad("feed HIGH").due("count 3", 2).due("feed 1", 3).due("feed 126", 4);
        // Each of them is the byte that it is, not another by its lowest bits.
        new Run(CHECK).feed("person 4").isBad("feed 187").isBad("feed 315").due("feed 59", 9).due("text", 1);
    }

    private static void feedToTheLastPlace() {
        CHECK.sentence("feed: FULL: more than 160");
        Run run = new Run(CHECK);
        for (int i = 1; i <= TAPE; i++) {
            run.due("feed 32", i);
        }
        run.due("feed 32", FULL).due("count 3", TAPE).due("feed 0", FULL).due("feed 127", FULL).due("count 3", TAPE);
        run.due("end 159", TAPE).due("feed 35", TAPE).due("feed 35", FULL).due("text", -10 - 159).due("feed 35", 1);
    }

    private static void endKeepsTheFirst() {
        CHECK.sentence("end: THE TAPE keeps its first n bytes: how many it had");
        String text = "person 1;person 2;person 3;";
        for (int n = 0; n <= 3; n++) {
            Run run = new Run(CHECK).feed(text).due("end " + 9 * n, 27).due("count 3", 9 * n).due("text", n).due("rule 0", n);
            for (int p = 0; p < n; p++) {
                run.due("person " + p + " 0", 10001 + p);
            }
        }
        new Run(CHECK).feed(text).due("end 26", 27).due("text", -36).due("fault", 2);
        new Run(CHECK).feed(text).due("end 19", 27).feed("rize 4;").due("text", -36).due("fault", 7);
        new Run(CHECK).feed(text).due("end 18", 27).feed("prize 4;").due("count 3", 26).due("text", -36).due("fault", 7);
        new Run(CHECK).feed(blanks(TAPE)).due("end 160", TAPE).due("end 0", TAPE).due("end 0", 0);
    }

    private static void endIsBad() {
        CHECK.sentence("end: BAD");
        new Run(CHECK).isBad("end 1").isBad("end -1").isBad("end 160").due("end 0", 0);
        new Run(CHECK).feed("person 7;").isBad("end 10").isBad("end -1").isBad("end LOW").isBad("end HIGH").due("count 3", 9)
            .due("end 9", 9).due("text", 1).due("person 0 0", 10007).isBad("end 1");
        new Run(CHECK).feed(blanks(TAPE)).isBad("end 161").due("count 3", TAPE).due("end 159", TAPE).isBad("end 160");
    }

    private static void textOfTheWholeTape() {
        CHECK.sentence("THE TAPE has 160 bytes");
        taken(blanks(TAPE), 0);
        taken(blanks(151) + "person 7;", 1).due("rule 0", 1).due("person 0 0", 10007);
        taken("person 7;" + blanks(151), 1).due("person 0 0", 10007);
        refused("a".repeat(TAPE), 2, 0);
        refused("1".repeat(TAPE), 1, 0);
        refused(blanks(151) + "person 70", 2, TAPE);
        refused(blanks(154) + "person", 2, TAPE);
    }

    private static void textEmptiesTheTape() {
        CHECK.sentence("text: THE TAPE (empty then)");
        new Run(CHECK).feed("person 7;").due("text", 1).due("count 3", 0).due("feed 32", 1);
        new Run(CHECK).feed("person").due("text", -16).due("count 3", 0).feed("person 7;").due("text", 1);
        new Run(CHECK).feed("prize 1;").due("text", -18).due("count 3", 0).due("feed 32", 1).due("text", 0);
        new Run(CHECK).due("text", 0).due("count 3", 0);
        // What a longer text left behind is not read as a shorter one's end.
        new Run(CHECK).feed("person 7;person 8;").due("text", 2).feed("person 6").due("text", -18).due("fault", 2);
    }

    private static void textTellsHowManyLines() {
        CHECK.sentence("text: how many lines");
        taken("", 0).due("rule 0", 0);
        String most = "person 1;".repeat(4) + "whole0 0 0;".repeat(4) + "prize 1;".repeat(4)
            + "draw0 0;draw1 1;draw2 2;draw3 3;";
        taken(most, 16).due("rule 2", 4);
        for (int n = 0; n <= 4; n++) {
            taken(people(n), n).due("rule 0", n);
        }
    }

    // ---- the grammar

    private static void placesFromZero() {
        CHECK.sentence("places from 0; -10 less the place of its FAULT");
        for (int place : new int[] {0, 1, 9, 100, 158, 159}) {
            refused(blanks(place) + "#", 1, place);
            refused(blanks(place) + ";", 2, place);
        }
        refused(blanks(159) + "7", 2, 159);
        refused(blanks(157) + "777", 1, 157);
    }

    private static void tokensAsLongAsMayBe() {
        CHECK.sentence("TOKENS, each as long as may be");
        refused("personperson 1;", 2, 0);
        refused("personwhole 0 0 0;", 2, 0);
        taken("person12;", 1).due("person 0 0", 10012);
        refused("person 1 2;", 2, 9);
        refused("draw 00;", 2, 7);
        refused("whole 0 00;", 2, 10);
        refused("person 123;", 1, 7);
        refused("person 1;;", 2, 9);
        refused(";;", 2, 0);
    }

    private static void blanksBetween() {
        CHECK.sentence("blanks (32) between");
        taken("person 1;", 1);
        taken("person1;", 1);
        taken("person1;person2;whole0 1 0;", 3);
        taken("   person   1   ;   person   2   ;   ", 2).due("person 1 0", 10002);
        refused("per son 1;", 2, 0);
        refused("draw 0 0 ; ;", 2, 11);
        for (int c : new int[] {0, 1, 9, 10, 13, 31, 33, 95, 127}) {
            refused("person" + (char) c + "1;", 1, 6);
            refused("person 1" + (char) c + ";", 1, 8);
            refused("person 1;" + (char) c, 1, 9);
        }
    }

    private static void eachByteAlone() {
        CHECK.sentence("FAULT 1 no TOKEN; NAMES (a .. z), NUMBERS, one ;");
        for (int c = 0; c < 128; c++) {
            boolean token = c >= 'a' && c <= 'z' || c >= '0' && c <= '9' || c == ';';
            if (c == ' ') {
                taken(" ", 0);
            } else {
                refused("" + (char) c, token ? 2 : 1, 0);
            }
        }
    }

    private static void eachByteBehindAToken() {
        CHECK.sentence("where a TOKEN ends");
        for (int c = 0; c < 128; c++) {
            boolean letter = c >= 'a' && c <= 'z';
            boolean figure = c >= '0' && c <= '9';
            String text = "person" + (char) c + "0;";
            if (c == ' ' || figure) {
                taken(text, 1).due("person 0 0", 10000 + (figure ? 10 * (c - '0') : 0));
            } else {
                refused(text, letter || c == ';' ? 2 : 1, letter ? 0 : 6);
            }
            String behind = "person 4" + (char) c;
            if (c == ';') {
                taken(behind, 1);
            } else if (c == ' ' || figure) {
                refused(behind, 2, 9);
            } else {
                refused(behind, letter ? 2 : 1, 8);
            }
        }
    }

    private static void numbersOfOneOrTwoFigures() {
        CHECK.sentence("NUMBERS (1 or 2 figures); FAULT 1 a NUMBER that is too long (its first byte)");
        for (int v : new int[] {0, 1, 8, 9, 10, 11, 19, 50, 89, 98, 99}) {
            taken("person " + v + ";", 1).due("person 0 0", 10000 + v);
        }
        taken("person 00;", 1).due("person 0 0", 10000);
        taken("person 09;", 1).due("person 0 0", 10009);
        for (String v : new String[] {"100", "000", "001", "999", "0000", "1234567890", "4294967296", "18446744073709551617"}) {
            refused("person " + v + ";", 1, 7);
            refused("person   " + v, 1, 9);
        }
        refused("whole 0 0 000;", 1, 10);
        refused("draw 000 0;", 1, 5);
        refused("100;", 1, 0);
        refused("person 100", 1, 7);
    }

    private static void linesOfEachWord() {
        CHECK.sentence("text: { line } with so many N and ;");
        String ahead = "person 1;whole 0 0 0;";
        for (int i = 0; i < WORDS.length; i++) {
            String line = WORDS[i] + NUMBERS[i];
            int end = ahead.length() + line.length();
            taken(ahead + line + ";", 3);
            refused(ahead + line, 2, end);
            refused(ahead + line + " 0;", 2, end + 1);
            refused(ahead + line + " x;", 2, end + 1);
            refused(ahead + line + " person 1;", 2, end + 1);
            String fewer = ahead + line.substring(0, line.length() - 2);
            refused(fewer + ";", 2, fewer.length());
            refused(fewer + " ;", 2, fewer.length() + 1);
            refused(fewer + " x;", 2, fewer.length() + 1);
            refused(ahead + WORDS[i] + ";", 2, ahead.length() + WORDS[i].length());
        }
    }

    private static void namesThatBeginNoLine() {
        CHECK.sentence("FAULT 2 a TOKEN that can not stand there (a NAME that begins no line)");
        for (String word : WORDS) {
            refused(word.substring(1) + " 0 0 0;", 2, 0);
            refused(word.substring(0, word.length() - 1) + " 0 0 0;", 2, 0);
            refused(word + "s 0 0 0;", 2, 0);
            refused("a" + word + " 0 0 0;", 2, 0);
            refused(word.substring(0, word.length() - 1) + "z 0 0 0;", 2, 0);
            refused("person 1;  " + word + word, 2, 11);
            for (int i = 0; i < word.length(); i++) {
                refused(word.substring(0, i) + 'q' + word.substring(i + 1) + " 0 0 0;", 2, 0);
            }
        }
        refused("x", 2, 0);
        refused("0;", 2, 0);
        refused("person 1;1;", 2, 9);
        refused("person 1; ;", 2, 10);
    }

    private static void theEndIsTheLength() {
        CHECK.sentence("FAULT 2: or the end: the length");
        String[] cut = {"person", "person 1", "whole", "whole 0", "whole 0 0", "whole 0 0 0", "hired 1 1", "split 2", "insured 3 3 9",
            "prize", "prize 9", "draw", "draw 0", "draw 0 0"};
        for (String text : cut) {
            refused(text, 2, text.length());
            refused(text + "  ", 2, text.length() + 2);
            refused("person 1;" + text, 2, 9 + text.length());
            refused(text + blanks(TAPE - text.length()), 2, TAPE);
        }
    }

    // ---- the bounds of numbers

    private static void boundsOfOwnersAndOthers() {
        CHECK.sentence("FAULT 3: OWNER, OTHER (0 to 3 each)");
        for (int kind = 0; kind < 4; kind++) {
            String word = TICKET_WORDS[kind];
            int at = people(4).length() + word.length() + 1;
            taken(people(4) + word + " 0 3 5;", 5).due("ticket 0 0", kind).due("ticket 0 1", 0).due("ticket 0 2", 3);
            taken(people(4) + word + " 3 0 5;", 5).due("ticket 0 1", 3).due("ticket 0 2", 0).due("ticket 0 3", 5);
            refused(people(4) + word + " 4 0 5;", 3, at);
            refused(people(4) + word + " 0 4 5;", 3, at + 2);
            refused(people(4) + word + " 99 0 5;", 3, at);
            refused(people(4) + word + " 0 04 5;", 3, at + 2);
            // The bound is that of the grammar, whoever there is.
            refused(word + " 4 0 5;", 3, word.length() + 1);
            refused(word + " 0 4 5;", 3, word.length() + 3);
        }
    }

    private static void boundsOfFees() {
        CHECK.sentence("FAULT 3: FEE (0 to 9)");
        for (String word : TICKET_WORDS) {
            int at = 9 + word.length() + 5;
            taken("person 1;" + word + " 0 0 0;", 2).due("ticket 0 3", 0);
            taken("person 1;" + word + " 0 0 9;", 2).due("ticket 0 3", 9);
            taken("person 1;" + word + " 0 0 09;", 2).due("ticket 0 3", 9);
            refused("person 1;" + word + " 0 0 10;", 3, at);
            refused("person 1;" + word + " 0 0 99;", 3, at);
        }
    }

    private static void boundsOfPursesAndPrizes() {
        CHECK.sentence("PURSE told 0 to 99; PRIZES of so much (0 to 99)");
        taken("person 0;whole 0 0 0;prize 0;", 3).due("person 0 0", 10000).due("prize 0 0", 0);
        taken("person 99;whole 0 0 0;prize 99;", 3).due("person 0 0", 10099).due("prize 0 0", 99);
        refused("person 100;", 1, 7);
        refused("person 1;whole 0 0 0;prize 100;", 1, 27);
        refused("person -1;", 1, 7);
        refused("prize -1;", 1, 6);
    }

    private static void boundsOfDraws() {
        CHECK.sentence("FAULT 3: draw: a TICKET, a PRIZE (0 to 3 each)");
        String four = people(1) + tickets(4);
        int at = four.length() + 5;
        taken(four + "draw 0 3;", 6).due("ticket 0 4", 3).due("prize 3 1", 0);
        taken(four + "draw 3 0;", 6).due("ticket 3 4", 0).due("prize 0 1", 3);
        refused(four + "draw 4 0;", 3, at);
        refused(four + "draw 0 4;", 3, at + 2);
        refused("draw 99 0;", 3, 5);
        refused("draw 0 99;", 3, 7);
    }

    // ---- what is too many

    private static void theFifthPerson() {
        CHECK.sentence("FAULT 5 the 5th person (its NAME)");
        taken(people(4), 4).due("rule 0", 4);
        refused(people(5), 5, 36);
        refused(people(4) + "   person 5;", 5, 39);
        refused(people(2) + tickets(2) + people(2) + "person", 5, 60);
        refused(people(4) + "person 100;", 5, 36);
        refused(people(4) + "person;", 5, 36);
        refused(people(4) + "persons 1;", 2, 36);
    }

    private static void theFifthTicket() {
        CHECK.sentence("FAULT 5 the 5th TICKET (its NAME)");
        for (String word : TICKET_WORDS) {
            String four = people(1) + "whole 0 0 0;hired 0 0 0;split 0 0 0;insured 0 0 0;";
            taken(people(1) + (word + " 0 0 0;").repeat(4), 5).due("rule 1", 4);
            refused(four + word + " 0 0 0;", 5, four.length());
            refused(four + "  " + word, 5, four.length() + 2);
            refused(four + word + " 4 4 10;", 5, four.length());
            refused(people(1) + (word + " 0 0 0;").repeat(5), 5, 9 + 4 * (word.length() + 7));
        }
    }

    private static void theFifthPrize() {
        CHECK.sentence("FAULT 5 the 5th prize (its NAME)");
        taken(people(1) + tickets(4) + "prize 1;prize 2;prize 3;prize 4;", 9).due("prize 3 0", 4);
        refused("prize 1;prize 2;prize 3;prize 4;prize 5;", 5, 32);
        refused("prize 1;prize 2;prize 3;prize 4; prize 100", 5, 33);
    }

    private static void theFifthDraw() {
        CHECK.sentence("FAULT 5 the 5th draw (its NAME)");
        taken(people(1) + tickets(4) + "draw 0 0;draw 1 1;draw 2 2;draw 3 3;", 9).due("rule 2", 4);
        refused(people(1) + tickets(4) + "draw 0 0;draw 1 1;draw 2 2;draw 3 3;draw 0 0;", 5, 93);
        refused("draw 0 0;draw 0 0;draw 0 0;draw 0 0;draw 4 4;", 5, 36);
        refused("draw 0 0;draw 0 0;draw 0 0;draw 0 0;  draw", 5, 38);
        // Four of each are not too many of another sort.
        taken(people(4) + tickets(3) + "prize 1;prize 2;prize 3;draw 0 0;draw 1 1;draw 2 2;", 13).due("rule 2", 3);
    }

    // ---- which FAULT

    private static void theFirstFaultMet() {
        CHECK.sentence("FAULTS, the first met as it is read");
        refused("person 1;x;#", 2, 9);
        refused("person 1;#;x", 1, 9);
        refused("whole 4 0 0;#", 3, 6);
        refused("whole 0 0 0;#", 1, 12);
        refused("whole 0 0 0;prize 1;prize 1;x", 2, 28);
        refused("draw 0 0;draw 0 0;draw 4 0;", 3, 23);
        refused(people(5) + "#", 5, 36);
        refused(people(4) + "#" + people(1), 1, 36);
        refused("whole 3 3 0;" + people(5), 5, 48);
    }

    private static void aTokenIsReadWhenTheOneBeforeIsTaken() {
        CHECK.sentence("a TOKEN is read when the one before has been taken");
        refused("x#", 2, 0);
        refused("x 100", 2, 0);
        refused("whole 4#", 3, 6);
        refused("whole 4 100", 3, 6);
        refused("whole 4", 3, 6);
        refused("whole 0 0 10#", 3, 10);
        refused("whole 0 0 10", 3, 10);
        refused("draw 9 9", 3, 5);
        refused(people(4) + "person#", 5, 36);
        refused("7#", 2, 0);
        // A TOKEN that is none is found as it is read, before it is asked whether it can stand there.
        refused("person #", 1, 7);
        refused("person 1 100", 1, 9);
        refused("person 1 #", 1, 9);
        refused("whole 0 100 0;", 1, 8);
        refused("whole 100 0 0;", 1, 6);
    }

    // ---- behind all

    private static void aPersonThatThereIsNot() {
        CHECK.sentence("FAULT 6 a PERSON that there is not (the length)");
        for (int n = 0; n <= 3; n++) {
            for (String word : TICKET_WORDS) {
                String owner = people(n) + word + " " + n + " 0 0;";
                String other = people(n) + word + " 0 " + n + " 0;";
                refused(owner, 6, owner.length());
                refused(other + "  ", 6, other.length() + 2);
                if (n > 0) {
                    taken(people(n) + word + " " + (n - 1) + " 0 0;", n + 1);
                    taken(people(n) + word + " 0 " + (n - 1) + " 0;", n + 1);
                }
                // Those told behind the TICKET are there, too.
                taken(word + " " + n + " " + n + " 0;" + people(n + 1), n + 2);
            }
        }
        String last = people(1) + tickets(3) + "whole 0 1 0;";
        refused(last, 6, last.length());
        taken(last + people(1), 6);
    }

    private static void morePrizesThanTickets() {
        CHECK.sentence("FAULT 7 more PRIZES than TICKETS (the length)");
        for (int n = 0; n <= 3; n++) {
            String as = people(1) + tickets(n) + "prize 1;".repeat(n);
            taken(as, 1 + 2 * n);
            refused(as + "prize 1;", 7, as.length() + 8);
            refused(as + "prize 0; ", 7, as.length() + 9);
            taken(as + "prize 1;" + tickets(1), 3 + 2 * n);
        }
        taken(people(1) + tickets(4) + "prize 1;".repeat(4), 9);
        taken(people(1) + tickets(4), 5);
    }

    private static void aDrawThatIsRefused() {
        CHECK.sentence("FAULT 8 a draw that is refused (also of what there is not) (the length)");
        for (int n = 0; n <= 3; n++) {
            String as = people(1) + tickets(n);
            refused(as + "draw " + n + " 0;", 8, as.length() + 9);
            refused(as + "draw 0 " + n + "; ", 8, as.length() + 10);
            if (n > 0) {
                taken(as + "draw " + (n - 1) + " 0;", n + 2);
                taken(as + "draw 0 " + (n - 1) + ";", n + 2);
            }
        }
        String two = people(1) + tickets(2);
        taken(two + "draw 0 1;draw 1 0;", 5);
        refused(two + "draw 0 0;draw 0 1;", 8, two.length() + 18);
        refused(two + "draw 0 0;draw 1 0;", 8, two.length() + 18);
        refused(two + "draw 0 0;draw 1 1;draw 0 0;", 8, two.length() + 27);
    }

    private static void behindAllByOrder() {
        CHECK.sentence("Behind all: 6, 7, 8; the first met");
        refused("whole 0 0 0;prize 1;prize 1;draw 3 3;", 6, 37);
        refused("draw 3 3;prize 1;prize 1;whole 0 0 0;", 6, 37);
        refused("person 1;draw 3 3;prize 1;", 7, 26);
        refused("person 1;draw 3 3;", 8, 18);
        refused("person 1;draw 3 3;prize 1;whole 1 1 1;", 6, 38);
        refused("draw 3 3;prize 1;whole 1 1 1;x", 2, 29);
    }

    private static void drawsBehindAllLines() {
        CHECK.sentence("draw: .. that are drawn, behind all lines, by order");
        taken("draw 0 1;person 50;person 40;hired 0 1 3;prize 8;hired 0 1 2;draw 1 0;prize 6;", 8).due("rule 2", 2)
            .due("person 0 0", 10050 + 3 + 2 + 2).due("person 1 0", 10040 - 3 - 2 + 6 - 2 + 8)
            .due("ticket 0 4", 1).due("ticket 1 4", 0).due("prize 0 1", 1).due("prize 1 1", 0);
        taken("draw 1 0;person 50;person 40;hired 0 1 3;prize 8;hired 0 1 2;draw 0 1;prize 6;", 8)
            .due("person 0 0", 10050 + 3 + 2 + 3).due("person 1 0", 10040 - 3 - 2 + 8 - 3 + 6);
    }

    private static void prizesToldComeFirst() {
        CHECK.sentence("PRIZES: as many as TICKETS: those told come first, by order, all others are 0");
        for (int told = 0; told <= 4; told++) {
            String text = "person 9;prize 11;prize 12;prize 13;prize 14;".substring(0, 9 + 9 * told);
            Run run = taken(text + tickets(4), 5 + told);
            int sum = 0;
            for (int k = 0; k < 4; k++) {
                int much = k < told ? 11 + k : 0;
                run.due("prize " + k + " 0", much).due("prize " + k + " 1", NONE);
                sum += much;
            }
            run.isBad("prize 4 0").due("rule 4", 15).due("rule 5", sum);
        }
        // A text of fewer PRIZES leaves none of an earlier one behind.
        taken(people(1) + tickets(2) + "prize 5;prize 6;", 5).feed(people(1) + tickets(2)).due("text", 3).due("rule 5", 0);
        // Nor does one that was refused.
        taken("", 0).feed(people(1) + tickets(2) + "prize 5;prize 6;x").due("text", -59).feed(people(1) + tickets(2))
            .due("text", 3).due("rule 5", 0);
    }

    private static void inPlaceOfWhatThereWas() {
        CHECK.sentence("A text that is taken tells all, in place of what there was");
        String four = people(4) + tickets(4) + "prize 9;draw 1 1;draw 2 0;";
        taken(four, 11).feed("person 3;whole 0 0 4;").due("text", 2).due("rule 0", 1).due("rule 1", 1).due("rule 2", 0)
            .due("rule 3", 1).due("rule 4", 1).due("rule 5", 0).due("ticket 0 4", NONE).due("prize 0 1", NONE)
            .due("person 0 0", 10003).isBad("person 1 0").isBad("ticket 1 0").isBad("prize 1 0").due("count 0", 10003);
        taken(four, 11).due("text", 0).due("rule 0", 0).due("rule 1", 0).due("rule 2", 0).due("rule 3", 0).due("rule 4", 0)
            .due("count 0", 10000);
        taken("", 0).feed(four).due("text", 11).due("rule 0", 4).due("rule 1", 4).due("rule 2", 2).due("rule 5", 0);
    }

    private static void nothingIsSeenThen() {
        CHECK.sentence("A text that is taken: nothing is SEEN");
        taken("person 1;", 1).then("see 0 7").due("count 1", 1).due("fits 0", 0).feed("person 1;").due("text", 1)
            .due("count 1", 0).due("fits 0", 1).due("forget 0", 0).due("see 0 1", 1);
        taken("person 1;", 1).then("see 0 7", "see 0 7", "see 0 7", "see 0 7", "see 0 7", "see 0 7").due("text", 0)
            .due("count 1", 0);
        // Whatever was asked or done by what was SEEN meanwhile.
        for (String call : new String[] {"fits 0", "ask 0", "fee 0 5", "kind 0", "buy 0", "cap 0 0 9", "drift 1 0", "keep 0",
            "read 0 0 0 1", "draw 0 0", "luck 0 5 0", "solid 0"}) {
            taken("person 1;whole 0 0 0;", 2).then("sheet 0 0 2", "see 0 7", "see 0 8", call).due("count 1", 2)
                .feed("person 1;whole 0 0 0;").due("text", 2).due("count 1", 0).due("fits 0", 1).isBad("forget 1");
        }
    }

    private static void imagesAreGone() {
        CHECK.sentence("A text that is taken: IMAGES are gone");
        taken("person 1;", 1).then("keep 0", "keep 1").due("count 2", 2).feed("person 1;").due("text", 1).due("count 2", 0)
            .due("back 0", STATE).due("back 1", STATE).due("keep 0", 0).due("keep 1", 0);
        taken("person 1;", 1).then("keep 1").due("text", 0).due("count 2", 0).due("back 1", STATE).due("keep 1", 0);
        taken("person 1;", 1).then("keep 0").due("text", 0).due("back 0", STATE).due("keep 0", 0);
        CHECK.sentence("A text that is taken leaves SHEETS and torn()");
        taken("person 1;", 1).then("sheet 0 2 7", "read 0 2 7 1").due("text", 0).due("count 4", 7).due("torn", 2);
    }

    private static void whatWasToldStays() {
        CHECK.sentence("text: -10 less the place of its FAULT: that which was told stays");
        String[] refused = {"#", "person", "whole 4 0 0;", people(5), "person 1;whole 1 0 0;", "person 1;prize 1;",
            "person 1;whole 0 0 0;draw 0 0;draw 0 0;"};
        int[] faults = {1, 2, 3, 5, 6, 7, 8};
        for (int i = 0; i < refused.length; i++) {
            Run run = Run.told(CHECK, "person 9;person 8;hired 0 1 3;whole 1 1 0;prize 30;", "see 0 12", "keep 1", "draw 0 0");
            run.feed(refused[i]).isNotBad("text").due("fault", faults[i]).due("rule 0", 2).due("rule 1", 2).due("rule 2", 1)
                .due("rule 3", 2).due("rule 4", 2).due("person 0 0", 10012).due("person 1 0", 10035).due("prize 0 0", 30)
                .due("ticket 0 4", 0).due("count 1", 1).due("fits 0", 1).due("count 2", 1).due("back 1", 0)
                .due("person 0 0", 10009).due("rule 3", 3);
        }
    }

    // ---- promise 5

    private static void faultOfTheLatest() {
        CHECK.sentence("fault: The FAULT of the latest text(); 0");
        new Run(CHECK).due("fault", 0).feed("#").due("fault", 0).due("text", -10).due("fault", 1).due("fault", 1)
            .feed("x").due("fault", 1).due("text", -10).due("fault", 2).isBad("draw 9 9").isBad("feed 128").due("fault", 2)
            .due("text", 0).due("fault", 0).feed("prize 1;").due("text", -18).due("fault", 7).feed("person 1;")
            .due("text", 1).due("fault", 0);
    }
}
