/** The edges of promises 2, 3 and 6 and of what a text is made of: a sentence of the document, then what is due by it. */
public final class TapeBoundaryTest extends Cases {
    private static final int BLANKS = 0x20202020;
    private static final String TWO = person(1, 1, 1, 1) + ";" + person(1, 1, 1, 1);

    private TapeBoundaryTest() {
        super("TapeBoundaryTest");
    }

    public static void main(String[] args) {
        TapeBoundaryTest t = new TapeBoundaryTest();
        t.fullTape();
        t.refusedFeedLeavesAll();
        t.orderOfBytes();
        t.endOfTape();
        t.cutBytesAreGone();
        t.usedUpByVillage();
        t.usedUpByLaw();
        t.usedUpByPairs();
        t.emptyTape();
        t.faultAheadOfAny();
        t.faultOfTheLatest();
        t.farthestFaults();
        t.words();
        t.digits();
        t.blanks();
        t.noLine();
        t.fiveHundredAndTwelveCalls();
        t.check.close();
    }

    private static int feedBlanks(PanNights x) {
        return x.feed(BLANKS, BLANKS, BLANKS, BLANKS, BLANKS);
    }

    private static PanNights filled(int bytes) {
        PanNights x = new PanNights();
        for (int n = 0; n < bytes; n += 20) {
            feedBlanks(x);
        }
        x.end(bytes);
        return x;
    }

    // ---- promise 2

    private void fullTape() {
        check.says("how many it has; NONE, and none come, if it would have more than 400.");
        PanNights x = new PanNights();
        for (int n = 20; n <= 400; n += 20) {
            check.due("feed to " + n, feedBlanks(x), n);
        }
        for (int n = 400; n > 380; n--) {
            x.end(n);
            check.due("feed at " + n, feedBlanks(x), -1);
            check.due("none came at " + n, x.end(n + 1), false);
        }
        check.due("end(380)", x.end(380), true);
        check.due("feed at 380", feedBlanks(x), 400);
        check.due("400 bytes are a text", x.village(), 1);
    }

    private void refusedFeedLeavesAll() {
        check.says("NONE, and none come, if it would have more than 400.");
        PanNights x = new PanNights();
        tape(x, " ".repeat(376) + "ale 7");
        check.due("feed at 381", x.feed(0x3b3b3b3b, 0x3b3b3b3b, 0x3b3b3b3b, 0x3b3b3b3b, 0x3b3b3b3b), -1);
        check.due("the text is as it was", x.village(), 1);
        check.due("ale", x.count(10), 7);
        check.due("feed then", feedBlanks(x), 20);
    }

    private void orderOfBytes() {
        check.says("Twenty bytes come behind the TAPE, of each number the highest first");
        PanNights x = new PanNights();
        // rain 12;watch 3;ale4
        check.due("feed", x.feed(0x7261696e, 0x2031323b, 0x77617463, 0x6820333b, 0x616c6534), 20);
        // ;fine 9; night 123
        check.due("feed", x.feed(0x3b66696e, 0x6520393b, 0x206e6967, 0x68742031, 0x32332020), 40);
        check.due("both feeds are one text", x.village(), 1);
        check.due("rain", x.count(7), 12);
        check.due("watch", x.count(8), 3);
        check.due("ale", x.count(10), 4);
        check.due("fine", x.count(9), 9);
        check.due("night", x.count(3), 123);
        // a byte is not what it is without its highest bit
        fault(x, false, bytes(0x61 + 128, 'l', 'e', ' ', '1'), 0);
        fault(x, false, bytes('a', 'l', 'e', 0x20 + 128, '1'), 3);
        fault(x, false, bytes('a', 'l', 'e', ' ', 0x31 + 128), 4);
        fault(x, false, bytes(255), 0);
        fault(x, false, bytes(0), 0);
    }

    // ---- promise 3

    private void endOfTape() {
        check.says("The TAPE has its first n bytes alone: true; false, and nothing happens, if it has fewer, or n is below 0.");
        PanNights x = new PanNights();
        for (int n : new int[] {1, 20, 400, Integer.MAX_VALUE, -1, Integer.MIN_VALUE}) {
            check.due("end(" + n + ") of none", x.end(n), false);
        }
        check.due("end(0) of none", x.end(0), true);
        check.due("nothing happened", feedBlanks(x), 20);
        for (int n : new int[] {21, Integer.MAX_VALUE, -1, Integer.MIN_VALUE}) {
            check.due("end(" + n + ") of 20", x.end(n), false);
        }
        check.due("nothing happened", feedBlanks(x), 40);
        check.due("end(40) of 40", x.end(40), true);
        check.due("all are there", feedBlanks(x), 60);
        check.due("end(59) of 60", x.end(59), true);
        check.due("one less", feedBlanks(x), 79);
        check.due("end(1) of 79", x.end(1), true);
        check.due("one alone", feedBlanks(x), 21);
        check.due("end(0) of 21", x.end(0), true);
        check.due("none", feedBlanks(x), 20);
        PanNights full = filled(400);
        check.due("end(401) of 400", full.end(401), false);
        check.due("end(400) of 400", full.end(400), true);
        check.due("all are there", feedBlanks(full), -1);
    }

    private void cutBytesAreGone() {
        check.says("The TAPE has its first n bytes alone: true");
        PanNights x = new PanNights();
        tape(x, "ale 12");
        check.due("end(5)", x.end(5), true);
        check.due("the sixth does not come back", x.end(6), false);
        check.due("ale 1 is left", x.village(), 1);
        check.due("ale", x.count(10), 1);
        tape(x, "ale 12");
        x.end(5);
        // ;fine 7
        x.feed(0x3b66696e, 0x65203720, BLANKS, BLANKS, BLANKS);
        check.due("what comes then stands behind the first n", x.village(), 2);
        check.due("ale", x.count(10), 1);
        check.due("fine", x.count(9), 7);
    }

    // ---- promises 4, 5, 30, 31: the tape that they use up

    private void usedUp(String call, PanNights x, String text, Check.Call reader, Object want) {
        tape(x, text);
        check.due(call, reader, want);
        check.due("nothing is left by " + call, x.end(1), false);
        check.due("feed after " + call, feedBlanks(x), 20);
    }

    private void usedUpByVillage() {
        check.says("Uses the TAPE up: a text of THE VILLAGE");
        PanNights x = new PanNights();
        usedUp("village()", x, "ale 1", () -> x.village(), 1);
        usedUp("a wrong village()", x, "ale 21", () -> x.village(), ARG);
        for (int n = 2; n <= 12; n++) {
            read(x, "", false);
        }
        usedUp("a 13th village()", x, "ale 1", () -> x.village(), UNSUPPORTED);
    }

    private void usedUpByLaw() {
        check.says("Uses the TAPE up: THE LAW: how many LINES.");
        PanNights x = new PanNights();
        usedUp("law()", x, "pan 1", () -> x.law(), 1);
        usedUp("a wrong law()", x, "pan 31", () -> x.law(), ARG);
    }

    private void usedUpByPairs() {
        PanNights x = of(TWO + ";" + person(1, 1, 1, 1), null);
        check.says("Uses the TAPE up: HEARD (of each two bytes: the first, the second; at most 40 bytes)");
        usedUp("heard(..)", x, bytes(0, 1), () -> x.heard(2, false), 1);
        usedUp("a wrong heard(..)", x, bytes(0, 0), () -> x.heard(2, false), ARG);
        usedUp("heard(..) to none", x, bytes(0, 1), () -> x.heard(3, false), OUT);
        usedUp("heard(..) of 42 bytes", x, bytes(0, 1).repeat(21), () -> x.heard(2, true), ARG);
        check.says("Uses the TAPE up: ASK (the TAPE likewise)");
        usedUp("ask(..)", x, bytes(0, 1), () -> x.ask(2), -1);
        usedUp("a wrong ask(..)", x, bytes(0, 0), () -> x.ask(2), ARG);
        usedUp("ask(..) to none", x, bytes(0, 1), () -> x.ask(3), OUT);
        usedUp("ask(..) of 42 bytes", x, bytes(0, 1).repeat(21), () -> x.ask(2), ARG);
    }

    private void emptyTape() {
        check.says("A text that is empty, or blanks alone, has no LINE.");
        PanNights x = new PanNights();
        check.due("village() of an empty tape", x.village(), 1);
        check.due("law() of an empty tape", x.law(), 0);
        check.due("village() again", x.village(), 2);
        check.due("law() again", x.law(), 0);
        check.due("fault", x.fault(), -1);
    }

    // ---- promise 6

    private void faultAheadOfAny() {
        check.says("NONE without one, and ahead of any.");
        PanNights x = new PanNights();
        check.due("fault of a new one", x.fault(), -1);
        tape(x, "ale 21");
        check.due("a tape is no text that was read", x.fault(), -1);
        check.due("heard(..) to none", () -> x.heard(0, true), OUT);
        check.due("pairs are no text", x.fault(), -1);
        fault(x, false, "ale 1", -1);
    }

    private void faultOfTheLatest() {
        check.says("The first wrong byte of the latest text that was read");
        PanNights x = of(TWO, null);
        fault(x, false, "ale 21", 4);
        tape(x, bytes(1, 1));
        check.due("wrong pairs", () -> x.ask(0), ARG);
        check.due("leave it", x.fault(), 4);
        fault(x, true, "pan", 3);
        check.due("the latest is the law", x.fault(), 3);
        fault(x, false, "", -1);
        fault(x, true, ";", 0);
        check.due("the latest is the law", x.fault(), 0);
        fault(x, true, "", -1);
        fault(x, false, "x", 0);
        for (int n = 3; n <= 12; n++) {
            read(x, "", false);
        }
        fault(x, false, "ale 21", 4);
        check.due("a 13th text", read(x, "ale 1", false), UNSUPPORTED);
        check.due("was read and is right", x.fault(), -1);
    }

    private void farthestFaults() {
        check.says("or the text's length, if more must come.");
        PanNights x = new PanNights();
        fault(x, false, "ale", 3);
        fault(x, false, "ale" + " ".repeat(397), 400);
        fault(x, false, " ".repeat(397) + "ale", 400);
        fault(x, false, " ".repeat(396) + "ale;", 399);
        fault(x, false, " ".repeat(399) + ";", 399);
        fault(x, false, "ale 1;" + " ".repeat(10), 16);
        // each byte of a full tape is a thing
        fault(x, false, ";".repeat(400), 0);
        fault(x, true, "(".repeat(400), 0);
        fault(x, true, "pan" + " ".repeat(397), 400);
        fault(x, true, " ".repeat(391) + "pan 1 if " , 400);
        fault(x, true, " ".repeat(390) + "pan 1 if (", 400);
        fault(x, true, " ".repeat(394) + "pan 1;", 400);
    }

    // ---- words, numbers, blanks

    private void words() {
        check.says("Words are as long as a to z go on");
        PanNights x = new PanNights();
        fault(x, false, "ale1", -1);
        fault(x, false, "alea 1", 0);
        fault(x, false, "alez 1", 0);
        fault(x, false, "al 1", 0);
        fault(x, false, "aleale 1", 0);
        fault(x, false, "al e 1", 0);
        fault(x, false, "ale`1", 3);
        fault(x, false, "ale{1", 3);
        fault(x, false, "`ale 1", 0);
        fault(x, false, "{ale 1", 0);
        fault(x, false, "Ale 1", 0);
        fault(x, false, "alE 1", 0);
        fault(x, false, "aleZ 1", 3);
        fault(x, false, "ale@1", 3);
        fault(x, false, "person needs0thirst0pride0purse0strangebegins", 32);
        fault(x, false, "person needs0thirst0pride0purse0strange begins", -1);
        fault(x, false, "personneeds0thirst0pride0purse0", 0);
        fault(x, true, "pan1if wet", -1);
        fault(x, true, "pan1ifwet", 4);
        fault(x, true, "pan1if not(wet)and(not wet)", -1);
        fault(x, true, "pan1if notwet", 7);
        fault(x, true, "pan1if wetand wet", 7);
        fault(x, true, "pan1if wet andwet", 11);
        fault(x, true, "pan1if 1<2or wet", -1);
        fault(x, true, "pan1if 1<2orwet", 10);
    }

    private void digits() {
        check.says("Numbers are of 1 to 3 digits.");
        PanNights x = new PanNights();
        fault(x, false, "night 7", -1);
        fault(x, false, "night 77", -1);
        fault(x, false, "night 777", -1);
        check.due("night", x.count(3), 777);
        fault(x, false, "night 007", -1);
        check.due("night", x.count(3), 7);
        fault(x, false, "night 0007", 6);
        fault(x, false, "night 0000", 6);
        fault(x, false, "night 7777777777777777777777", 6);
        fault(x, false, "night 4294967297", 6);
        fault(x, false, "night", 5);
        fault(x, false, "night ;ale 1", 6);
        fault(x, false, "night 09", -1);
        check.due("night", x.count(3), 9);
        fault(x, false, "night /", 6);
        fault(x, false, "night :", 6);
        fault(x, false, "night 1/", 7);
        fault(x, false, "night 1:", 7);
        fault(x, false, "night 1 2", 8);
        fault(x, false, "night +1", 6);
        fault(x, false, "night -1", 6);
        check.says("All numbers are of 1 to 3 digits (N 0 to 30).");
        fault(x, true, "pan 030 if 999 > 009", -1);
        fault(x, true, "pan 0030", 4);
        fault(x, true, "pan", 3);
        fault(x, true, "pan 1 if 1000 > 1", 9);
        fault(x, true, "pan 1 if 0999 > 1", 9);
        fault(x, true, "pan 1 if 1 > 0999", 13);
        fault(x, true, "pan 1 if 1 + 0001 > 1", 13);
    }

    private void blanks() {
        check.says("between all there may be blanks (32), also ahead and behind.");
        PanNights x = new PanNights();
        String gap = " ".repeat(9);
        fault(x, false, String.join(gap, "", "person", "needs", "1", "thirst", "2", "pride", "3", "purse", "4", "strange", "begins", ";", "ale", "5", ""), -1);
        facts(x, 0, 1, 2, 3, 4, 0, -1, 1, 1);
        check.due("ale", x.count(10), 5);
        fault(x, false, "wrong0 1;rain7;watch8;fine9;target0;night6", -1);
        check.due("rain", x.count(7), 7);
        fault(x, true, String.join(gap, "", "pan", "1", "if", "(", "not", "wet", ")", "and", "1", "+", "2", "<", "who", "or", "2", ">", "1", ";", "need", "1", ""), -1);
        fault(x, true, "pan1if(not wet)and 1+2<who or 2>1;need1", -1);
        for (int b : new int[] {0, 9, 10, 11, 12, 13, 31, 33, 95, 127, 160, 255}) {
            fault(x, false, "ale" + (char) b + "1", 3);
            fault(x, false, (char) b + "ale 1", 0);
            fault(x, false, "ale 1" + (char) b, 5);
            fault(x, true, "pan 1 if" + (char) b + "wet", 8);
        }
    }

    private void noLine() {
        check.says("A text that is empty, or blanks alone, has no LINE.");
        PanNights x = new PanNights();
        int texts = 0;
        for (int n : new int[] {0, 1, 399, 400}) {
            texts++;
            check.due(n + " blanks, a village", read(x, " ".repeat(n), false), texts);
            check.due("fault", x.fault(), -1);
            check.due(n + " blanks, a law", read(x, " ".repeat(n), true), 0);
            check.due("fault", x.fault(), -1);
        }
        counts(x, 0, 4, 0, 0, 0, -1, 0, 0, 0, 3, 2, 0, 0, 0, 0);
        fault(x, false, ";", 0);
        fault(x, false, " ; ", 1);
        fault(x, true, ";", 0);
        fault(x, true, " ; ", 1);
    }

    private void fiveHundredAndTwelveCalls() {
        check.says("An object is used for at most 512 calls after it has been made");
        PanNights x = new PanNights();
        for (int call = 1; call <= 511; call++) {
            check.due("call " + call, x.seed(call), call == 1 ? 1 : call - 1);
        }
        check.due("the 512th call", x.seed(0), 511);
    }
}
