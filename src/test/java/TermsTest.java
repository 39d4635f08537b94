import java.util.ArrayList;
import java.util.Arrays;
import java.util.List;

/** The sentences of "Terms" that many calls share: a test of each, just inside its boundary and just outside. */
public final class TermsTest {
    private static final int BAD = Run.BAD, STATE = Run.STATE, FULL = Run.FULL, NONE = Run.NONE;
    private static final String[] KINDS = {"whole", "hired", "split", "insured"};
    private static final Check CHECK = new Check();

    /** Three people, three tickets, the prize 2 a blank. */
    private static final String THREE =
        "person 9;person 8;person 7;hired 0 1 2;split 1 2 0;insured 2 0 1;prize 30;prize 7;";
    /** Then: ticket 1 has prize 0; two are SEEN; both IMAGES; SHEETS of each lane and of nothing; torn() is 2. */
    private static final String[] STOCK = {
        "see 0 20", "keep 0", "see 1 15", "draw 1 0", "keep 1",
        "sheet 0 1 6", "lay 0 0 2", "lay 0 1 2", "lay 0 2 0", "lay 0 3 1", "lay 0 4 1", "lay 0 5 0",
        "sheet 2 2 3", "lay 2 0 1", "lay 2 1 2", "lay 2 2 0", "sheet 3 0 0", "read 0 1 6 1"
    };

    public static void main(String[] args) {
        answers();
        noSuchPerson();
        noSuchTicket();
        noSuchPrize();
        noSuchImage();
        noSuchSheet();
        whatIsNotAsTold();
        amountsAreNotAsTold();
        badComesFirst();
        stateComesBeforeNone();
        whatIsRefusedChangesNothing();
        whatIsRefusedElsewhereChangesNothing();
        aRefusedTextChangesTheTapeAlone();
        whatIsAskedChangesNothing();
        fractionsInLowestTerms();
        zeroIsZeroByOne();
        denominatorsAboveZero();
        callsUpToTheLast();
        CHECK.close("TermsTest");
    }

    private static Run three(String... calls) {
        return Run.told(CHECK, THREE, calls);
    }

    private static Run stock(String... calls) {
        return three(STOCK).then(calls);
    }

    private static String people(int n) {
        return "person 50;".repeat(n);
    }

    private static String tickets(int n) {
        StringBuilder s = new StringBuilder();
        for (int t = 0; t < n; t++) {
            s.append(KINDS[t]).append(" 0 0 1;");
        }
        return s.toString();
    }

    private static void answers() {
        CHECK.sentence("BAD -1, STATE -2, FULL -3, NONE -4");
        CHECK.due("BAD", WheelTickets.BAD, -1);
        CHECK.due("STATE", WheelTickets.STATE, -2);
        CHECK.due("FULL", WheelTickets.FULL, -3);
        CHECK.due("NONE", WheelTickets.NONE, -4);
    }

    /** Of n things the call, with each # a number: BAD for one that there is not, something else for one that there is. */
    private static void thereAre(String text, int n, int most, String call) {
        for (String outside : new String[] {"-1", "" + n, "" + most, "LOW", "HIGH"}) {
            Run.told(CHECK, text).isBad(call.replace("#", outside));
        }
        for (int inside = 0; inside < n; inside++) {
            Run.told(CHECK, text).isNotBad(call.replace("#", "" + inside));
        }
    }

    private static void noSuchPerson() {
        CHECK.sentence("BAD: there is no such PERSON");
        String[] calls = {"person # 0", "person # 1", "person # 2", "fill # 5", "mean # 0", "mean # 1", "luck # 0 0",
            "luck # 0 1", "ends # 0", "ends # 1", "ends # 2", "buy #", "see # 0", "drift 1 #"};
        for (int n = 0; n <= 4; n++) {
            for (String call : calls) {
                thereAre(people(n), n, 4, call);
            }
        }
        for (int n = 1; n <= 4; n++) {
            for (String call : new String[] {"cap 0 # 999", "sign 0 1 #", "sign 0 2 #"}) {
                thereAre(people(n) + tickets(1), n, 4, call);
            }
        }
    }

    private static void noSuchTicket() {
        CHECK.sentence("BAD: there is no such TICKET");
        String[] calls = {"ticket # 0", "ticket # 1", "ticket # 2", "ticket # 3", "ticket # 4", "sign # 0 0", "sign # 1 0",
            "sign # 2 0", "sign # 3 0", "draw # 0", "day # 0", "day # 1", "fee # 0", "kind #"};
        for (int n = 0; n <= 4; n++) {
            for (String call : calls) {
                thereAre(people(1) + tickets(n), n, 4, call);
            }
            for (int outside : new int[] {-1, n, 4, Integer.MIN_VALUE, Integer.MAX_VALUE}) {
                Run.told(CHECK, people(1) + tickets(n)).isBad("fits " + (10 + outside));
            }
            for (int inside = 0; inside < n; inside++) {
                Run.told(CHECK, people(1) + tickets(n)).due("fits " + (10 + inside), (1 << n) - 1);
            }
        }
    }

    private static void noSuchPrize() {
        CHECK.sentence("BAD: there is no such PRIZE (as many as TICKETS)");
        for (int n = 0; n <= 4; n++) {
            for (String call : new String[] {"prize # 0", "prize # 1", "promise # 5", "draw 0 #", "cap # 0 999"}) {
                thereAre(people(1) + tickets(n), n, 4, call);
            }
        }
    }

    private static void noSuchImage() {
        CHECK.sentence("BAD: there is no such IMAGE (0, 1)");
        thereAre(THREE, 2, 2, "keep #");
        thereAre(THREE, 2, 2, "back #");
        for (String outside : new String[] {"-1", "2", "LOW", "HIGH"}) {
            stock().isBad("keep " + outside).isBad("back " + outside).due("count 2", 2);
        }
    }

    private static void noSuchSheet() {
        CHECK.sentence("BAD: there is no such SHEET (0 to 3)");
        thereAre(THREE, 4, 4, "sheet # 0 1");
        thereAre(THREE, 4, 4, "lay # 0 0");
        thereAre(THREE, 4, 4, "read # 0 0 0");
        thereAre(THREE, 4, 4, "read # 0 0 1");
    }

    /** The call with a number of each kind at #: BAD just outside its bounds and far, not BAD at both of them. */
    private static void bounds(String call, int least, int most) {
        for (int outside : new int[] {least - 1, most + 1, Integer.MIN_VALUE, Integer.MAX_VALUE}) {
            three().isBad(call.replace("#", "" + outside));
        }
        three().isNotBad(call.replace("#", "" + least));
        three().isNotBad(call.replace("#", "" + most));
    }

    private static void whatIsNotAsTold() {
        CHECK.sentence("BAD: a number is not as told (what)");
        bounds("rule #", 0, 5);
        bounds("person 2 #", 0, 2);
        bounds("ticket 2 #", 0, 4);
        bounds("prize 2 #", 0, 1);
        bounds("sign 2 # 0", 0, 3);
        bounds("worth #", 0, 1);
        bounds("day 2 #", 0, 1);
        bounds("mean 2 #", 0, 1);
        bounds("luck 2 0 #", 0, 1);
        bounds("solid #", 0, 1);
        bounds("ends 2 #", 0, 2);
        bounds("ask #", 0, 1);
        bounds("count #", 0, 4);
        for (int what = 1; what < 10; what++) {
            three().isBad("fits " + what);
        }
        bounds("fits #", 0, 0);
        for (int what = 10; what < 13; what++) {
            three().due("fits " + what, 7);
        }
        three().isBad("fits 13");
    }

    private static void amountsAreNotAsTold() {
        CHECK.sentence("BAD: a number is not as told (so much)");
        bounds("feed #", 0, 127);
        bounds("sign 0 0 #", 0, 3);
        bounds("sign 0 1 #", 0, 2);
        bounds("sign 0 2 #", 0, 2);
        bounds("sign 0 3 #", 0, 9);
        bounds("fill 2 #", 0, 99);
        bounds("promise 2 #", 0, 99);
        bounds("luck 2 # 0", -999, 999);
        bounds("fee 2 #", -999, 999);
        bounds("cap 2 2 #", 0, 999);
        bounds("see 2 #", -999, 999);
        bounds("sheet 3 # 1", 0, 2);
        bounds("read 3 # 0 1", 0, 2);
        bounds("read 3 0 0 #", 0, 20);
        bounds("end #", 0, 0);
        bounds("forget #", 0, 0);
        // A seed is any number, and so are a CELL's place and what is laid there.
        for (String any : new String[] {"LOW", "-1", "0", "1", "HIGH"}) {
            three().isNotBad("drift " + any + " 0");
            three("sheet 0 2 1").isNotBad("lay 0 " + any + " 0").due("lay 0 0 " + any, 1).isNotBad("read 0 2 " + any + " 1");
        }
    }

    private static void badComesFirst() {
        CHECK.sentence("the first that fits: BAD before STATE, FULL, NONE, -14");
        Run drawn = stock();
        for (String call : new String[] {"sign 1 3 10", "sign 1 4 0", "sign 1 1 3", "promise 0 100", "promise 0 -1", "draw 1 3",
            "draw 3 0", "draw 1 -1", "draw -1 0", "day 1 2", "day 1 -1", "fee 1 1000", "fee 1 -1000", "cap 0 3 5", "cap 0 -1 5",
            "cap 0 0 -1", "cap 0 0 1000"}) {
            drawn.isBad(call);
        }
        CHECK.that("back() of no such image", three().call("back 2") == BAD);
        Run fullTape = new Run(CHECK).feed(" ".repeat(160));
        fullTape.isBad("feed 128").isBad("feed -1").due("feed 32", FULL);
        Run fullSeen = three("see 0 0", "see 0 0", "see 0 0", "see 0 0", "see 0 0", "see 0 0");
        fullSeen.isBad("see 3 0").isBad("see 0 1000").isBad("see 0 -1000").due("see 0 0", FULL);
        Run nothing = new Run(CHECK);
        nothing.isBad("worth 2").isBad("worth -1").due("worth 0", NONE);
        nothing.isBad("ask 2").isBad("ask -1").due("ask 0", NONE).due("ask 1", NONE);
        nothing.isBad("buy 0").isBad("ticket 0 4").isBad("prize 0 1").isBad("count 5").due("count 4", NONE);
        three().isBad("fee 0 1000").due("fee 0 999", NONE);
        three().isBad("cap 0 0 -1").due("cap 0 0 0", NONE);
        three().isBad("sheet 4 0 -1").isBad("sheet 0 3 -1").due("sheet 0 0 -1", -14);
        three().isBad("lay 4 0 0").due("lay 3 -1 0", -11);
    }

    private static void stateComesBeforeNone() {
        CHECK.sentence("the first that fits: STATE before NONE");
        three("promise 0 99").due("cap 2 0 0", NONE).due("draw 2 2", 0).due("cap 2 0 0", STATE);
        three().due("fee 2 999", NONE).then("draw 2 2").due("fee 2 999", STATE);
    }

    /** All that there is in a run, as far as calls can tell: the last of them use it up. */
    private static List<Long> everything(Run run) {
        List<Long> all = new ArrayList<>(run.look());
        all.addAll(run.lookAtSeen());
        all.addAll(run.lookAtSheet(0, 6));
        all.addAll(run.lookAtSheet(1, 0));
        all.addAll(run.lookAtSheet(2, 3));
        all.addAll(run.lookAtSheet(3, 0));
        all.addAll(run.lookAtImage(0));
        all.addAll(run.lookAtImage(1));
        all.addAll(run.lookAtTape());
        return all;
    }

    private static void same(String what, List<Long> got, List<Long> want) {
        CHECK.that("nothing is changed by " + what + ": " + got + " was " + want, got.equals(want));
    }

    private static Run stockWithTape() {
        return stock("feed 35", "text").feed("person 4;");
    }

    private static void whatIsRefusedChangesNothing() {
        CHECK.sentence("what is refused changes nothing");
        List<Long> want = everything(stockWithTape());
        String[] bad = {"feed -1", "feed 128", "end -1", "end 10", "rule -1", "rule 6", "person 3 0", "person 0 3", "ticket 3 0",
            "ticket 0 5", "prize 3 0", "prize 0 2", "sign 3 0 0", "sign -1 0 0", "sign 0 4 0", "sign 0 -1 0", "sign 0 0 4",
            "sign 0 0 -1", "sign 0 1 3", "sign 0 1 -1", "sign 0 2 3", "sign 0 2 -1", "sign 0 3 10", "sign 0 3 -1", "fill 3 1",
            "fill -1 1", "fill 0 100", "fill 0 -1", "promise 3 1", "promise -1 1", "promise 1 100", "promise 1 -1", "draw 3 1",
            "draw -1 1", "draw 0 3", "draw 0 -1", "worth 2", "day 3 0", "day 0 2", "mean 3 0", "mean 0 2", "luck 3 0 0",
            "luck 0 1000 0", "luck 0 -1000 0", "luck 0 0 2", "solid 2", "ends 3 0", "ends 0 3", "fee 3 0", "fee 0 1000",
            "fee 0 -1000", "kind 3", "kind -1", "buy 3", "buy -1", "cap 3 0 0", "cap 1 3 0", "cap 1 0 -1", "cap 1 0 1000",
            "see 3 0", "see -1 0", "see 0 1000", "see 0 -1000", "forget -1", "forget 3", "fits 1", "fits 13", "ask 2",
            "drift 1 3", "drift 1 -1", "keep -1", "keep 2", "back -1", "back 2", "sheet -1 0 1", "sheet 4 0 1", "sheet 0 -1 1",
            "sheet 0 3 1", "sheet 0 1 41", "lay -1 0 0", "lay 4 0 0", "read -1 1 0 1", "read 4 1 0 1", "read 0 -1 0 1",
            "read 0 3 0 1", "read 0 1 0 -1", "read 0 1 0 21", "count -1", "count 5"};
        for (String call : bad) {
            same(call, everything(stockWithTape().isBad(call)), want);
        }
        String[] state = {"sign 1 0 3", "sign 1 1 0", "sign 1 2 0", "sign 1 3 9", "promise 0 5", "draw 1 1", "draw 0 0",
            "draw 1 0", "day 1 0", "fee 1 5", "kind 1", "cap 0 0 99"};
        for (String call : state) {
            same(call, everything(stockWithTape().due(call, STATE)), want);
        }
        for (String call : new String[] {"fee 0 999", "cap 1 1 0"}) {
            same(call, everything(stockWithTape().due(call, NONE)), want);
        }
        same("sheet of a size below 0", everything(stockWithTape().due("sheet 0 0 -1", -14)), want);
        same("lay on nothing", everything(stockWithTape().due("lay 1 0 1", -11)), want);
        same("lay below", everything(stockWithTape().due("lay 0 -1 1", -12)), want);
        same("lay beyond", everything(stockWithTape().due("lay 0 6 1", -12)), want);
        same("the third of a read", everything(stockWithTape().due("read 0 1 0 3", -22)), want);
        same("the first of a read", everything(stockWithTape().due("read 2 2 0 1", -20)), want);
    }

    private static void whatIsRefusedElsewhereChangesNothing() {
        CHECK.sentence("what is refused changes nothing (FULL, STATE of back, NONE of ask, buy, worth)");
        Run tape = new Run(CHECK).feed(" ".repeat(151)).feed("person 4;");
        tape.due("feed 59", FULL).due("feed 35", FULL).due("count 3", 160).due("text", 1).due("person 0 0", 10004);
        String[] six = {"see 0 0", "see 0 1", "see 1 2", "see 1 3", "see 2 4", "see 2 21"};
        List<Long> seen = three(six).lookAtSeen();
        same("see() of the seventh", three(six).due("see 0 11", FULL).lookAtSeen(), seen);
        Run noImage = three("keep 1", "draw 0 0", "see 0 1").due("back 0", STATE);
        noImage.due("rule 2", 1).due("count 1", 1).due("count 2", 1).due("back 1", 0);
        Run drawn = three("draw 0 0", "draw 1 1", "draw 2 2");
        List<Long> all = three("draw 0 0", "draw 1 1", "draw 2 2").look();
        same("what there is not", drawn.due("worth 0", NONE).due("buy 0", NONE).due("ask 0", NONE).look(), all);
    }

    private static void aRefusedTextChangesTheTapeAlone() {
        CHECK.sentence("what is refused changes nothing (but THE TAPE, as told)");
        String[][] faults = {{"1", "#"}, {"2", "x"}, {"3", "draw 4"}, {"5", "person 1;person 1;person 1;person 1;person"},
            {"6", "whole 0 0 0;"}, {"7", "prize 1;"}, {"8", "person 1;whole 0 0 0;draw 0 0;draw 0 0;"}};
        for (String[] f : faults) {
            Run once = stock().feed(f[1]).then("text");
            Run twice = stock().feed(f[1]).then("text").feed(f[1]).then("text").due("fault", Integer.parseInt(f[0]));
            same("\"" + f[1] + "\"", everything(twice), everything(once));
        }
    }

    private static void whatIsAskedChangesNothing() {
        CHECK.sentence("what is only asked changes nothing");
        List<Long> want = everything(stockWithTape());
        String[] asked = {"fault", "rule 5", "person 0 0", "ticket 0 4", "prize 1 1", "worth 0", "worth 1", "day 0 0", "day 2 1",
            "mean 0 0", "mean 2 1", "luck 0 9 0", "luck 2 9 1", "solid 0", "solid 1", "ends 0 0", "ends 1 1", "ends 2 2",
            "fee 0 5", "fee 2 9", "kind 0", "kind 2", "buy 0", "buy 1", "buy 2", "cap 1 0 50", "cap 2 1 99", "fits 0",
            "fits 10", "fits 11", "ask 0", "ask 1", "drift 5 0", "drift 6 2", "torn", "count 0", "count 4"};
        for (String call : asked) {
            same(call, everything(stockWithTape().isNotBad(call)), want);
        }
    }

    private static void fractionsInLowestTerms() {
        CHECK.sentence("Fractions are in lowest terms");
        String two = "person 5;person 5;whole 0 0 0;whole 1 1 0;prize 6;prize 4;";
        Run.told(CHECK, two).fraction("worth", 5, 1).fraction("day 0", 5, 2).fraction("mean 0", 10, 1)
            .fraction("luck 0 10", 1, 2).fraction("solid", 1, 1);
        Run.told(CHECK, two, "promise 1 8").fraction("worth", 7, 1).fraction("day 1", 7, 2).fraction("mean 1", 12, 1);
        Run.told(CHECK, two, "promise 1 2").fraction("worth", 4, 1).fraction("day 1", 2, 1).fraction("mean 1", 9, 1);
        Run.told(CHECK, two, "promise 1 3").fraction("worth", 9, 2).fraction("day 1", 9, 4).fraction("mean 1", 19, 2);
        String four = "person 1;person 1;whole 0 0 0;whole 1 1 0;whole 1 1 0;whole 1 1 0;prize 10;";
        Run.told(CHECK, four).fraction("worth", 5, 2).fraction("day 3", 5, 8).fraction("mean 0", 7, 2)
            .fraction("mean 1", 17, 2).fraction("luck 0 2", 1, 4).fraction("luck 1 2", 3, 4);
    }

    private static void zeroIsZeroByOne() {
        CHECK.sentence("0 is 0 by 1");
        Run.told(CHECK, "person 0;person 0;whole 0 0 0;whole 1 1 0;whole 1 1 0;").fraction("worth", 0, 1)
            .fraction("day 0", 0, 1).fraction("mean 0", 0, 1).fraction("luck 0 1", 0, 1);
        Run.told(CHECK, "person 0;person 0;hired 0 1 1;whole 0 0 0;whole 0 0 0;").fraction("solid", 0, 1);
        new Run(CHECK).then("feed 32", "text").fraction("solid", 1, 1);
        Run.told(CHECK, "person 0;").fraction("mean 0", 0, 1).fraction("luck 0 1", 0, 1).fraction("luck 0 0", 1, 1);
    }

    private static void denominatorsAboveZero() {
        CHECK.sentence("the denominator above 0");
        // Half of the days of a fee of 1 to 9, with nothing else: one day and a half in the mean.
        for (int fee = 1; fee <= 9; fee++) {
            Run run = Run.told(CHECK, "person 0;person 0;hired 0 1 " + fee + ";whole 0 0 0;");
            boolean whole = fee % 2 == 0;
            run.fraction("mean 1", whole ? -3 * fee / 2 : -3 * fee, whole ? 1 : 2);
            run.fraction("mean 0", whole ? 3 * fee / 2 : 3 * fee, whole ? 1 : 2);
        }
        Run.told(CHECK, "person 0;person 0;hired 0 1 9;draw 0 0;").fraction("mean 1", -9, 1);
    }

    private static void callsUpToTheLast() {
        CHECK.sentence("An object is used for at most 512 calls after it has been made");
        String[] calls = {"feed 65", "end 0", "text", "fault", "rule 5", "person 0 0", "ticket 1 4", "prize 0 1", "sign 0 3 7",
            "fill 0 9", "promise 1 9", "draw 0 1", "worth 0", "day 0 1", "mean 0 0", "luck 0 9 0", "solid 1", "ends 2 2",
            "fee 0 5", "kind 2", "buy 1", "cap 1 0 50", "see 0 7", "forget 1", "fits 0", "ask 0", "drift 5 0", "keep 0",
            "back 1", "sheet 1 2 40", "lay 0 5 2", "read 0 1 0 2", "torn", "count 0"};
        CHECK.due("calls of the face", Arrays.stream(calls).map(c -> c.split(" ")[0]).distinct().count(), 34);
        for (String call : calls) {
            long early = stock().call(call);
            Run late = stock();
            while (late.calls() < Run.CALLS_MOST - 1) {
                late.then("count 1");
            }
            late.due(call, early);
            CHECK.due("calls", late.calls(), Run.CALLS_MOST);
        }
        Run tape = new Run(CHECK);
        for (int i = 1; i <= Run.CALLS_MOST; i++) {
            tape.due("feed 32", i <= 160 ? i : FULL);
        }
    }
}
