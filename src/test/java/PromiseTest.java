/** Each promise of the document by hand: ordinary inputs, the edges that it names, wrong inputs. */
public final class PromiseTest extends Cases {
    // 0: needs 0; 1: needs 1; 2: needs 2, strange; 3: needs 5; 4: needs 3, begins
    private static final String FIVE = "person needs 0 thirst 3 pride 4 purse 50;person needs 1 thirst 2 pride 3 purse 20;"
        + "person needs 2 thirst 1 pride 8 purse 5 strange;person needs 5 thirst 0 pride 99 purse 0;"
        + "person needs 3 thirst 5 pride 2 purse 30 begins;wrong 1 3;wrong 4 2;feud 0 with 1;feud 1 with 0;feud 2 with 1;ale 3;fine 10";

    private PromiseTest() {
        super("PromiseTest");
    }

    public static void main(String[] args) {
        PromiseTest t = new PromiseTest();
        t.newObject();
        t.tape();
        t.villageTexts();
        t.villageFaults();
        t.villageLimits();
        t.lawTexts();
        t.lawFaults();
        t.lawMeaning();
        t.facts();
        t.naming();
        t.beginning();
        t.buying();
        t.telling();
        t.giving();
        t.nightsDry();
        t.nightsByDraws();
        t.nightsFined();
        t.crowds();
        t.fewest();
        t.keeping();
        t.tipping();
        t.prices();
        t.resting();
        t.hearing();
        t.asking();
        t.feuding();
        t.magistrate();
        t.braveAndAlike();
        t.ahead();
        t.shares();
        t.trials();
        t.theLog();
        t.undoing();
        t.undoingNights();
        t.theImage();
        t.counts();
        t.throwingChangesNothing();
        t.check.close();
    }

    private static PanNights five() {
        return of(FIVE, null);
    }

    // ---- promise 1, 52
    private void newObject() {
        PanNights x = new PanNights();
        int[] want = {0, 0, -1, 0, 0, -1, 0, 0, 0, 3, 2, 0, 0, 0, 0};
        for (int what = 0; what < want.length; what++) {
            check.due("count(" + what + ") of a new one", x.count(what), want[what]);
        }
        check.due("fault of a new one", x.fault(), -1);
        check.due("seed of a new one", x.seed(1), 1);
        check.due("undo of a new one", x.undo(), false);
        check.due("back of a new one", x.back(), false);
        check.due("person of a new one", () -> x.person(0, 0), OUT);
        check.due("dearest of nobody", x.dearest(), -1);
        check.due("brings of nobody", x.brings(20), 0);
        check.due("best of nobody", x.best(), 0);
        check.due("feuds of nobody", x.feuds(), 0);
        check.due("hated of nobody", x.hated(), -1);
        check.due("ripest of nobody", x.ripest(), -1);
        check.due("alike of nobody", x.alike(), 0);
        check.due("ends of nobody", x.ends(), -1);
        check.due("calm of nobody", x.calm(60), 0);
        check.due("trial of nobody", x.trial(60, false), 0);
        check.due("trial target of nobody", x.trial(60, true), -1);
        check.due("span of nobody", x.span(60, true), 0);
        check.due("nights of nobody", x.nights(60), 0);
        check.due("count(3)", x.count(3), 60);
        check.due("log of nobody", x.log(0, 0), -1);
    }

    // ---- promises 2, 3
    private void tape() {
        PanNights x = new PanNights();
        check.due("end(0) of none", x.end(0), true);
        check.due("end(1) of none", x.end(1), false);
        check.due("end(-1)", x.end(-1), false);
        for (int n = 20; n <= 400; n += 20) {
            check.due("feed", x.feed(0x20202020, 0x20202020, 0x20202020, 0x20202020, 0x20202020), n);
        }
        check.due("feed over 400", x.feed(1, 2, 3, 4, 5), -1);
        check.due("end(401)", x.end(401), false);
        check.due("end(400)", x.end(400), true);
        check.due("400 blanks", x.village(), 1);
        check.due("used up", x.end(1), false);
        for (int i = 0; i < 20; i++) {
            x.feed(0x20202020, 0x20202020, 0x20202020, 0x20202020, 0x20202020);
        }
        check.due("end(381)", x.end(381), true);
        check.due("feed at 381", x.feed(1, 2, 3, 4, 5), -1);
        check.due("end(380)", x.end(380), true);
        check.due("feed at 380", x.feed(1, 2, 3, 4, 5), 400);
        check.due("end(0)", x.end(0), true);
        // the highest byte first: a l e _ 7 is read, the rest is cut
        x.feed(0x616c6520, 0x37ffffff, -1, -1, -1);
        check.due("end(5)", x.end(5), true);
        x.feed(0x3b66696e, 0x65203900, 0, 0, 0);
        check.due("end(12)", x.end(12), true);
        check.due("ale 7;fine 9", x.village(), 2);
        check.due("ale", x.count(10), 7);
        check.due("fine", x.count(9), 9);
        x.feed(0x616c6520, 0x37ffffff, -1, -1, -1);
        check.due("ff at 5", () -> x.village(), ARG);
        check.due("fault of ff", x.fault(), 5);
    }

    // ---- promise 4, 6
    private void villageTexts() {
        PanNights x = new PanNights();
        check.due("blanks", read(x, "   ", false), 1);
        check.due("all lines", read(x, " person needs 8 thirst 9 pride 99 purse 999 strange begins ;person needs 000 thirst 0 pride 00 purse 0"
            + ";wrong 1 9;feud 1 with 0;target 1;rain 100;watch 99;fine 30;ale 20;night 999 ", false), 2);
        check.due("fault", x.fault(), -1);
        facts(x, 0, 8, 9, 99, 999, 0, -1, 1, 1);
        facts(x, 1, 0, 0, 0, 0, 9, 0, 0, 0);
        int[] want = {2, 2, -1, 999, 0, 1, 0, 100, 99, 30, 20, 1, 999, 0, 0};
        for (int what = 0; what < want.length; what++) {
            check.due("count(" + what + ") of the text", x.count(what), want[what]);
        }
        check.due("no blanks", read(x, "personneeds1thirst1pride1purse1", false), ARG);
        check.due("fault of one long word", x.fault(), 0);
        check.due("few blanks", read(x, "person needs1thirst2pride3purse4begins;wrong 2 1;wrong 2 0;feud 2 with 1", false), 3);
        facts(x, 2, 1, 2, 3, 4, 0, 1, 0, 1);
        check.due("strange alone", read(x, "person needs 1 thirst 1 pride 1 purse 1 strange", false), 4);
        facts(x, 3, 1, 1, 1, 1, 0, -1, 1, 0);
        x.nights(1);
        check.due("borne", x.count(6), 1);
        check.due("target anew", read(x, "target 1", false), 5);
        check.due("borne anew", x.count(6), 0);
        check.due("a target without a wrong", read(x, "target 0", false), 6);
        check.due("it is so", x.count(5), 0);
        check.due("people of two texts", read(x, "person needs 1 thirst 1 pride 1 purse 1;feud 4 with 0;feud 0 with 4", false), 7);
        check.due("feud over texts", x.feuds(), 1);
    }

    private void villageFault(String text, int want) {
        PanNights x = new PanNights();
        read(x, "person needs 1 thirst 1 pride 1 purse 1;person needs 1 thirst 1 pride 1 purse 1", false);
        check.due("village " + text, read(x, text, false), want == -1 ? "2" : ARG);
        check.due("fault of " + text, x.fault(), want);
        check.due("texts after " + text, x.count(1), want == -1 ? 2 : 1);
    }

    private void villageFaults() {
        villageFault("person needs 1 thirst 1 pride 1 purse 999 strange begins", -1);
        villageFault("person needs 1 thirst 1 pride 1 purse 9 begins strange", 47);
        villageFault("person needs 1 thirst 1 pride 1 purse 9 strange strange", 48);
        villageFault("person needs 1 thirst 1 pride 1 purse 9 begins begins", 47);
        villageFault("person needs 1 thirst 1 pride 1 purse", 37);
        villageFault("person needs 1 thirst 1 pride 1 purse  ", 39);
        villageFault("person needs 1 pride 1", 15);
        villageFault("person 1", 7);
        villageFault("person needs 9 thirst 1 pride 1 purse 9", 13);
        villageFault("person needs 8 thirst 10", 22);
        villageFault("person needs 8 thirst 9 pride 100", 30);
        villageFault("person needs 8 thirst 9 pride 99 purse 0999", 39);
        villageFault("person needs 0008 thirst 9", 13);
        villageFault("wrong 1 9", -1);
        villageFault("wrong 2 9", 6);
        villageFault("wrong 1 10", 8);
        villageFault("wrong 1", 7);
        villageFault("wrong", 5);
        villageFault("wrong ale", 6);
        villageFault("feud 1 with 0", -1);
        villageFault("feud 1 with 001", 12);
        villageFault("feud 1 with 2", 12);
        villageFault("feud 2 with 1", 5);
        villageFault("feud 1 0", 7);
        villageFault("feud 1 with", 11);
        villageFault("feud 1 with ;", 12);
        villageFault("feud 2 with 1;person needs 1 thirst 1 pride 1 purse 1", 5);
        villageFault("target 2", 7);
        villageFault("target 1", -1);
        villageFault("target", 6);
        villageFault("rain 100", -1);
        villageFault("rain 101", 5);
        villageFault("watch 100", -1);
        villageFault("watch 101", 6);
        villageFault("fine 30", -1);
        villageFault("fine 31", 5);
        villageFault("ale 20", -1);
        villageFault("ale 21", 4);
        villageFault("night 999", -1);
        villageFault("night 1000", 6);
        villageFault("Rain 1", 0);
        villageFault("rains 1", 0);
        villageFault("rainz 1", 0);
        villageFault("raina 1", 0);
        villageFault("rain -1", 5);
        villageFault("rain 1 2", 7);
        villageFault("rain 1 ale 2", 7);
        villageFault("rain 1,ale 2", 6);
        villageFault("rain 1;", 7);
        villageFault("rain 1; ", 8);
        villageFault(";", 0);
        villageFault("rain 1;;ale 2", 7);
        villageFault("  7", 2);
        villageFault("rain\t1", 4);
        villageFault("need 1", 0);
        villageFault("rain 1" + (char) 0, 6);
        villageFault("rain 1" + (char) 233, 6);
        villageFault("with", 0);
    }

    private void villageLimits() {
        PanNights x = new PanNights();
        check.due("14 lines", read(x, times("ale 1", 14), false), 1);
        check.due("15 lines", read(x, times("ale 1", 14) + " ; ale 2", false), ARG);
        check.due("fault of 15", x.fault(), 86);
        check.due("14 lines and ;", read(x, times("ale 1", 14) + "; ", false), ARG);
        check.due("fault of 14 and ;", x.fault(), 85);
        check.due("8 people", read(x, times("person needs 1 thirst 1 pride 1 purse 1", 8), false), 2);
        check.due("9th", read(x, "ale 3; person needs 9", false), ARG);
        check.due("fault of the 9th", x.fault(), 7);
        check.due("nothing stays", x.count(10), 1);
        for (int n = 3; n <= 12; n++) {
            check.due("text " + n, read(x, "ale " + n, false), n);
        }
        check.due("a 13th text", read(x, "ale 13", false), UNSUPPORTED);
        check.due("it was right", x.fault(), -1);
        check.due("a 13th wrong text", read(x, "ale 21", false), ARG);
        check.due("it was wrong", x.fault(), 4);
        check.due("a 13th text again", read(x, "", false), UNSUPPORTED);
        check.due("it was right again", x.fault(), -1);
        check.due("ale as with 12", x.count(10), 12);
        check.due("12 texts", x.count(1), 12);
        x.feed(0, 0, 0, 0, 0);
        Check.answer(() -> x.village());
        check.due("used up by a wrong one", x.end(1), false);
    }

    // ---- promise 5
    private void lawTexts() {
        PanNights x = new PanNights();
        check.due("a law", read(x, "need 1", true), 1);
        check.due("another", read(x, " need 30 ; spare 0 if feud;pan 007 if wet or strange ", true), 3);
        check.due("lines", x.count(2), 3);
        check.due("a wrong one", read(x, "need 1;pan", true), ARG);
        check.due("fault", x.fault(), 10);
        check.due("lines of the one before", x.count(2), 3);
        check.due("none", read(x, "  ", true), 0);
        check.due("no lines", x.count(2), 0);
        check.due("12 lines", read(x, times("pan 30", 12), true), 12);
        check.due("13 lines", read(x, times("pan 30", 13), true), ARG);
        check.due("fault of 13", x.fault(), 84);
        check.due("6 deep", read(x, "pan 1 if not(not(not(wet)))and not not not not not not wet", true), 1);
        check.due("as long as may be", read(x, "pan 1 if " + "1+".repeat(194) + "1<1", true), 1);
        tape(x, "pan 31");
        Check.answer(() -> x.law());
        check.due("used up by a wrong one", x.end(1), false);
    }

    private void lawFaults() {
        PanNights x = new PanNights();
        String[] texts = {"need", "need 31", "need 0030", "need x", "tax 1", "need 1 wet", "need 1 if", "need 1 if and", "need 1 if wet and",
            "need 1 if wet or", "need 1 if wet wet", "need 1 if (wet", "need 1 if wet)", "need 1 if ()", "need 1 if (wet))", "need 1 if not",
            "need 1 if who", "need 1 if who <", "need 1 if who < 1 <", "need 1 if who < 1 > 2", "need 1 if who + < 1", "need 1 if 1000 > 1",
            "need 1 if 1 > 0001", "need 1 if who = 1", "need 1 if feud < 1", "need 1 if 1 < wet", "need 1 if pride > 1", "need 1 if whow > 1",
            "need 1;", "need 1 if wet;", "need 1;;", "need 1 if wet need 1", "need 1 if (1+2)<3", "need 1 if not(not(not(not(not(not(not wet",
            "need 1 if ((((((( wet", "need 1 if (((((( not wet", "need 1 if (((((( wet", "need 1 if NOT wet", "need 1 iff wet", "need 1 1",
            "need 1 if 1 2 < 3", "spare 31", "pan 31", "needs 1", "person needs 1"};
        int[] want = {4, 5, 5, 5, 0, 7, 9, 10, 17,
            16, 14, 14, 13, 11, 15, 13,
            13, 15, 18, 18, 16, 10,
            14, 14, 15, 14, 10, 10,
            7, 14, 7, 14, 14, 22,
            16, 17, 20, 10, 7, 7,
            12, 6, 4, 0, 0};
        for (int i = 0; i < texts.length; i++) {
            check.due("law " + texts[i], read(x, texts[i], true), ARG);
            check.due("fault of " + texts[i], x.fault(), want[i]);
        }
        check.due("no law stays", x.count(2), -1);
        for (String right : new String[] {"need 30", "spare 30 if feud", "pan 0 if not(strange or wet)and who<1+2", "need1if(((((( wet ))))))",
            "need 1 if 999>night or not not not not not not wet", "pan 1if 1<2and 2<3or wet"}) {
            check.due("law " + right, read(x, right, true), 1);
            check.due("fault of " + right, x.fault(), -1);
        }
    }

    /** What 0 needs against 1, with threshold 3 and 4 more by a line that holds. */
    private void holds(String condition, boolean want) {
        PanNights x = of("person needs 3 thirst 7 pride 1 purse 11;person needs 2 thirst 1 pride 1 purse 22 strange;"
            + "person needs 1 thirst 2 pride 1 purse 33;wrong 0 5;wrong 1 6;feud 0 with 1;feud 1 with 2;target 1;night 123", "need 4 if " + condition);
        check.due(condition, x.against(0, 1, false), want ? 7 : 3);
    }

    private void lawMeaning() {
        holds("feud", true);
        holds("not feud", false);
        holds("strange", true);
        holds("wet", false);
        holds("who < 1", true);
        holds("who > 0", false);
        holds("thirst > 6 and thirst < 8", true);
        holds("threshold > 2 and threshold < 4", true);
        holds("wrong > 5 and wrong < 7", true);
        holds("purse > 21 and purse < 23", true);
        holds("borne < 1", true);
        holds("night > 122 and night < 124", true);
        holds("1 < 1", false);
        holds("1 > 1", false);
        holds("1 + 2 + 3 > 5", true);
        holds("1 + 2 + 3 < 3 + 4", true);
        holds("1 + 2 + 3 > 6 + 0", false);
        // and binds more than or
        holds("feud or wet and wet", true);
        holds("wet and wet or feud", true);
        holds("(feud or wet) and wet", false);
        holds("wet and (wet or feud)", false);
        holds("not wet and feud", true);
        holds("not (wet and feud)", true);
        holds("not not feud", true);
        holds("not wet or feud and wet", true);
        holds("wet or wet or feud", true);
        holds("feud and feud and wet", false);
        holds("wet and feud or feud and strange", true);
        PanNights x = of("person needs 3 thirst 1 pride 9 purse 1;person needs 8 thirst 1 pride 9 purse 2;person needs 0 thirst 1 pride 9 purse 3;"
            + "wrong 1 1;feud 0 with 1;target 1", "need 5;spare 2 if feud;spare 30 if who > 1;pan 4;pan 30 if feud;need 1 if borne > 0");
        check.due("needs, spared", x.against(0, 1, false), 6);
        check.due("needs, not spared", x.against(1, 0, false), 13);
        check.due("needs 0 at least", x.against(2, 0, false), 0);
        check.due("pans", x.against(0, 1, true), 35);
        check.due("pans of no feud", x.against(1, 0, true), 5);
        x.nights(1);
        check.due("borne against the target", x.against(0, 1, false), 7);
        check.due("borne against another one", x.against(0, 2, false), 8);
        for (int i = 0; i < 20; i++) {
            read(x, "pan 2 if " + "who + ".repeat(60) + "1 > 0", true);
        }
        check.due("a long law, and again", x.against(0, 1, true), 3);
        read(x, times("pan 1 if feud", 11) + ";pan 8 if not feud;", true);
        check.due("and again", x.against(0, 1, true), 3);
        read(x, times("pan 1 if feud", 11) + ";pan 8 if not feud", true);
        check.due("twelve lines", x.against(0, 1, true), 12);
        read(x, "pan 8 if not feud;" + times("pan 1 if feud", 11), true);
        check.due("twelve lines", x.against(0, 1, true), 12);
        read(x, "", true);
        check.due("no line", x.against(0, 1, false), 3);
        check.due("one pan", x.against(0, 1, true), 1);
    }

    // ---- promises 7, 8
    private void facts() {
        PanNights x = five();
        facts(x, 2, 2, 1, 8, 5, 0, 1, 1, 0);
        facts(x, 4, 3, 5, 2, 30, 2, -1, 0, 1);
        for (int far : FAR) {
            check.due("person(" + far + ", 0)", () -> x.person(far, 0), OUT);
            check.due("person(" + far + ", 8)", () -> x.person(far, 8), OUT);
            check.due("person(0, " + far + ")", () -> x.person(0, far), NO_SUCH);
            check.due("against(" + far + ", 0)", () -> x.against(far, 0, true), OUT);
            check.due("against(0, " + far + ")", () -> x.against(0, far, false), OUT);
            check.due("against(" + far + " twice)", () -> x.against(far, far, false), OUT);
        }
        check.due("person(5, 0)", () -> x.person(5, 0), OUT);
        check.due("person(4, 8)", () -> x.person(4, 8), NO_SUCH);
        check.due("against(3, 3)", () -> x.against(3, 3, false), ARG);
        check.due("against(3, 0)", x.against(3, 0, false), 5);
        check.due("against(3, 0) pans", x.against(3, 0, true), 1);
    }

    // ---- promise 9
    private void naming() {
        PanNights x = five();
        x.wrong(3, 1);
        check.due("name(3)", x.name(3), -1);
        check.due("target", x.count(5), 3);
        x.nights(1);
        check.due("borne", x.count(6), 1);
        check.due("name(4)", x.name(4), 3);
        check.due("borne by a new name", x.count(6), 0);
        x.nights(1);
        check.due("bought off", x.count(5), -1);
        check.due("its wrong is none", () -> x.name(4), STATE);
        check.due("name(0)", () -> x.name(0), STATE);
        check.due("name(5)", () -> x.name(5), OUT);
        check.due("name(-1)", () -> x.name(-1), OUT);
        x.name(1);
        check.due("name(1) again", x.name(1), 1);
    }

    // ---- promise 10
    private void beginning() {
        PanNights x = five();
        check.due("begin(0)", x.begin(0, true), true);
        check.due("begin(0) again", x.begin(0, true), false);
        check.due("begin(4) no more", x.begin(4, false), true);
        check.due("begin(4) no more again", x.begin(4, false), false);
        check.due("beginners", x.count(11), 1);
        check.due("acts", x.count(14), 4);
        check.due("begin(5)", () -> x.begin(5, true), OUT);
        check.due("begin(-1)", () -> x.begin(-1, true), OUT);
    }

    // ---- promise 11
    private void buying() {
        PanNights x = five();
        check.due("without a target", () -> x.buy(), STATE);
        x.name(1);
        // 4 begins, then 0 (needs 0), then 2 (needs 2): three at 3
        check.due("buy", x.buy(), 11);
        check.due("no target", x.count(5), -1);
        facts(x, 1, 1, 2, 3, 11, 0, 0, 0, 0);
        facts(x, 0, 0, 2);
        facts(x, 2, 2, 0);
        facts(x, 4, 3, 4);
        facts(x, 3, 5, 0);
        check.due("no row of the log", x.count(13), 0);
        check.due("no night", x.count(3), 0);
        x.wrong(3, 1);
        x.name(3);
        check.due("a purse of none", () -> x.buy(), STATE);
        check.due("still the target", x.count(5), 3);
        x.give(3, 11);
        check.due("one too little", () -> x.buy(), STATE);
        x.give(3, 1);
        check.due("just enough", x.buy(), 0);
        PanNights y = of("person needs 1 thirst 0 pride 99 purse 0;person needs 1 thirst 0 pride 1 purse 0;target 0", null);
        check.due("nobody comes, no pride looked at", y.buy(), 0);
        check.due("bought off", y.count(5), -1);
        PanNights z = of("person needs 1 thirst 0 pride 99 purse 9;person needs 0 thirst 0 pride 1 purse 0;target 0", null);
        check.due("thirst 0", z.buy(), 7);
        check.due("thirst 0 stays", z.person(1, 1), 0);
    }

    // ---- promises 12 to 14
    private void telling() {
        PanNights x = five();
        check.due("feud(0, 4)", x.feud(0, 4), 1);
        check.due("feud(0, -1)", x.feud(0, -1), 4);
        check.due("feud(0, -1) again", x.feud(0, -1), -1);
        check.due("no feud", x.person(0, 5), -1);
        check.due("feud(0, 0)", () -> x.feud(0, 0), ARG);
        check.due("feud(0, 5)", () -> x.feud(0, 5), OUT);
        check.due("feud(0, -2)", () -> x.feud(0, -2), OUT);
        check.due("feud(5, 5)", () -> x.feud(5, 5), OUT);
        check.due("feud(-1, -1)", () -> x.feud(-1, -1), OUT);
        check.due("teach(3, 8)", x.teach(3, 8), 5);
        check.due("teach(3, 0)", x.teach(3, 0), 8);
        check.due("taught", x.person(3, 0), 0);
        check.due("teach(3, 9)", () -> x.teach(3, 9), ARG);
        check.due("teach(3, -1)", () -> x.teach(3, -1), ARG);
        check.due("teach(5, 9)", () -> x.teach(5, 9), OUT);
        check.due("wrong(1, 9)", x.wrong(1, 9), 3);
        check.due("wrong(1, 0)", x.wrong(1, 0), 9);
        check.due("wronged", x.person(1, 4), 0);
        check.due("wrong(1, 10)", () -> x.wrong(1, 10), ARG);
        check.due("wrong(1, -1)", () -> x.wrong(1, -1), ARG);
        check.due("wrong(-1, -1)", () -> x.wrong(-1, -1), OUT);
        x.name(4);
        x.wrong(4, 0);
        check.due("a target with no wrong any more", x.count(5), 4);
        check.due("acts", x.count(14), 9);
    }

    // ---- promise 15
    private void giving() {
        PanNights x = five();
        check.due("give(3, 1)", x.give(3, 1), 1);
        check.due("give(3, 999)", x.give(3, 999), 1000);
        check.due("give(3, 0)", () -> x.give(3, 0), ARG);
        check.due("give(3, 1000)", () -> x.give(3, 1000), ARG);
        check.due("give(3, -1)", () -> x.give(3, -1), ARG);
        check.due("give(5, 0)", () -> x.give(5, 0), OUT);
        for (int i = 2; i <= 9; i++) {
            check.due("give on", x.give(3, 999), 1 + 999 * i);
        }
        check.due("give to 8992 and on", x.give(3, 999), 9991);
        check.due("9999 at most", x.give(3, 9), 9999);
        check.due("9999 still", x.give(3, 1), 9999);
        check.due("purses", x.count(12), 9999 + 105);
    }

    // ---- promise 16, without rain and watch
    private void nightsDry() {
        // 0 is the target: 1 begins, 2 comes with one there, 3 with five never
        String text = "person needs 8 thirst 0 pride 20 purse 9;person needs 8 thirst 2 pride 1 purse 5 begins;"
            + "person needs 1 thirst 0 pride 1 purse 0;person needs 5 thirst 7 pride 1 purse 7;wrong 0 4;target 0;ale 5";
        PanNights x = of(text, "pan 2;pan 3 if who > 1");
        check.due("noise", x.loud(0), 9);
        check.due("a night", x.nights(1), 2);
        facts(x, 0, 8, 0, 18, 9, 4);
        check.due("borne", x.count(6), 1);
        check.due("night", x.count(3), 1);
        check.due("log", x.log(0, 0), 0);
        check.due("log", x.log(0, 1), 0);
        check.due("log", x.log(0, 2), 2);
        check.due("log", x.log(0, 3), 3);
        check.due("two nights", x.nights(2), 4);
        facts(x, 0, 8, 0, 14, 9, 0);
        check.due("no target any more", x.count(5), -1);
        check.due("borne is 0 without", x.count(6), 0);
        check.due("nobody to come to", x.nights(60), 0);
        check.due("rows", x.count(13), 3);
        check.due("night", x.count(3), 63);
        // loud enough for its pride, but the purse is one too small, then not
        PanNights y = of(text, "pan 9");
        check.due("noise", y.loud(0), 20);
        y.nights(1);
        check.due("too dear", y.log(0, 3), 3);
        check.due("pride", y.person(0, 2), 15);
        y.give(0, 1);
        y.nights(1);
        check.due("bought off", y.log(0, 3), 2);
        facts(y, 0, 8, 0, 15, 0, 0);
        facts(y, 1, 8, 1, 1, 5);
        facts(y, 2, 1, 0, 1, 0);
        facts(y, 3, 5, 7, 1, 7);
        check.due("no target", y.count(5), -1);
        check.due("borne", y.count(6), 0);
        // pride is 0 at least; a pride of 0 is met by any noise
        PanNights z = of("person needs 1 thirst 0 pride 2 purse 0;person needs 0 thirst 2 pride 1 purse 5;target 0;ale 1", "pan 29");
        z.nights(1);
        check.due("pride 0", z.person(0, 2), 0);
        z.give(0, 1);
        z.nights(1);
        check.due("bought off", z.log(0, 3), 2);
        // with nobody who comes nothing is paid, and it is borne all the same
        PanNights n = of("person needs 1 thirst 0 pride 0 purse 9;person needs 1 thirst 2 pride 1 purse 5;target 0;wrong 0 1;night 998;watch 100", null);
        check.due("nobody", n.nights(3), 0);
        check.due("log", n.log(2, 3), 0);
        check.due("log", n.log(0, 0), 1000);
        check.due("wrong is 0", n.person(0, 4), 0);
        check.due("purse", n.count(12), 14);
        for (int i = 0; i < 150; i++) {
            n.nights(60);
        }
        check.due("9999 at most", n.count(3), 9999);
        check.due("nights(0)", () -> n.nights(0), ARG);
        check.due("nights(61)", () -> n.nights(61), ARG);
        check.due("nights(-1)", () -> n.nights(-1), ARG);
    }

    private static int draw(int seed) {
        return (seed * 1103515245 + 12345 >>> 16 & 0x7fff) % 100;
    }

    // ---- promise 16, 48: wet by draws; one draw a night, two with somebody there
    private void nightsByDraws() {
        int first = draw(1);
        int after = 1103515245 + 12345;
        for (int more = 0; more < 2; more++) {
            PanNights x = of("rain " + (first + more), null);
            x.nights(1);
            check.due("wet by rain " + (first + more), x.count(4), more);
            check.due("the seed after a night", x.seed(77), after);
            check.due("the seed told", x.seed(-5), 77);
        }
        PanNights x = of("person needs 0 thirst 0 pride 50 purse 9;person needs 0 thirst 0 pride 1 purse 9;target 0;rain 100", "need 1 if wet");
        check.due("it comes while dry", x.comes(0), 2);
        check.due("but not in the rain", x.nights(1), 0);
        check.due("one draw", x.seed(1), after);
        check.due("wet", x.count(4), 1);
        PanNights y = of("person needs 0 thirst 0 pride 50 purse 9;person needs 0 thirst 0 pride 1 purse 9;target 0", null);
        y.nights(1);
        check.due("two draws", y.seed(1), after * 1103515245 + 12345);
        PanNights z = of("rain 50", null);
        z.seed(Integer.MIN_VALUE);
        z.nights(1);
        check.due("a seed that goes round", z.count(4), draw(Integer.MIN_VALUE) < 50 ? 1 : 0);
    }

    // ---- promise 16: fined
    private void nightsFined() {
        String text = "person needs 0 thirst 1 pride 0 purse 90;person needs 0 thirst 1 pride 1 purse 9;person needs 0 thirst 1 pride 1 purse 3;"
            + "person needs 8 thirst 1 pride 1 purse 9;target 0;fine 4;watch ";
        int second = draw(1103515245 + 12345);
        PanNights x = of(text + (second + 1), null);
        check.due("they came", x.nights(1), 2);
        check.due("fined", x.log(0, 3), 1);
        check.due("how many came", x.log(0, 2), 2);
        facts(x, 0, 0, 1, 0, 90);
        facts(x, 1, 0, 1, 1, 5);
        facts(x, 2, 0, 1, 1, 0);
        facts(x, 3, 8, 1, 1, 9);
        check.due("borne all the same", x.count(6), 1);
        PanNights y = of(text + second, null);
        y.nights(1);
        check.due("not fined", y.log(0, 3), 2);
        check.due("paid", y.person(0, 3), 86);
    }

    // ---- promises 17 to 20
    private void crowds() {
        PanNights x = five();
        check.due("comes(1)", x.comes(1), 0b10101);
        check.due("rounds(1)", x.rounds(1), 2);
        check.due("when(4, 1)", x.when(4, 1), 0);
        check.due("when(0, 1)", x.when(0, 1), 1);
        check.due("when(2, 1)", x.when(2, 1), 2);
        check.due("when(3, 1)", x.when(3, 1), -1);
        check.due("loud(1)", x.loud(1), 3);
        check.due("comes(4), itself a beginner", x.comes(4), 0b00111);
        check.due("rounds(4)", x.rounds(4), 3);
        check.due("when(2, 4)", x.when(2, 4), 3);
        check.due("comes(2): all at once", x.comes(2), 0b10011);
        check.due("rounds(2)", x.rounds(2), 1);
        x.teach(0, 2);
        x.teach(1, 2);
        check.due("beginners alone", x.rounds(3), 0);
        check.due("comes(3)", x.comes(3), 0b10000);
        x.begin(4, false);
        check.due("nobody", x.comes(3), 0);
        check.due("rounds of nobody", x.rounds(3), 0);
        check.due("loud of nobody", x.loud(3), 0);
        PanNights y = of(FIVE, "pan 3 if feud;pan 1 if who > 3");
        check.due("loud(1)", y.loud(1), 4 + 4 + 2);
        for (int far : FAR) {
            check.due("comes", () -> x.comes(far), OUT);
            check.due("rounds", () -> x.rounds(far), OUT);
            check.due("when", () -> x.when(far, 0), OUT);
            check.due("when", () -> x.when(0, far), OUT);
            check.due("when", () -> x.when(far, far), OUT);
            check.due("loud", () -> x.loud(far), OUT);
        }
        check.due("comes(5)", () -> x.comes(5), OUT);
        check.due("when(1, 1)", () -> x.when(1, 1), ARG);
        PanNights one = of("person needs 0 thirst 0 pride 0 purse 0 begins", null);
        check.due("to the only one", one.comes(0), 0);
        // seven rounds, one at a time
        StringBuilder chain = new StringBuilder("person needs 0 thirst 0 pride 0 purse 0 begins");
        for (int i = 1; i < 8; i++) {
            chain.append(";person needs ").append(i).append(" thirst 0 pride 0 purse 0");
        }
        PanNights long8 = of(chain.toString(), null);
        check.due("a long chain", long8.rounds(7), 6);
        check.due("all of it", long8.comes(7), 0b1111111);
        check.due("the chain without its begin", long8.comes(0), 0);
    }

    // ---- promise 21
    private void fewest() {
        PanNights x = five();
        // 0, 1, 2 come by themselves, 3 never does
        int[] want = {0, 0, 0, 0, 8, -1, -1, -1, -1};
        for (int n = 0; n < want.length; n++) {
            check.due("fewest(4, " + n + ")", x.fewest(4, n), want[n]);
        }
        // 0 comes alone, for more one more is needed: 2 and 3 bring as many, 2 is less
        check.due("fewest(1, 1)", x.fewest(1, 1), 0);
        check.due("fewest(1, 2)", x.fewest(1, 2), 4);
        check.due("fewest(1, 3)", x.fewest(1, 3), 8);
        check.due("fewest(1, 9)", () -> x.fewest(1, 9), ARG);
        check.due("fewest(1, -1)", () -> x.fewest(1, -1), ARG);
        check.due("fewest(5, 9)", () -> x.fewest(5, 9), OUT);
        PanNights y = of(times("person needs 8 thirst 0 pride 0 purse 0", 8), null);
        check.due("all but the one", y.fewest(3, 7), 0b11110111);
        check.due("three, the least", y.fewest(0, 3), 0b1110);
        check.due("never eight", y.fewest(0, 8), -1);
    }

    // ---- promise 22
    private void keeping() {
        PanNights x = five();
        // three pans to a pride of 3: one less is enough, without 0 there is 4 alone
        check.due("keep(1)", x.keep(1), 1);
        check.due("keep(2): not loud enough anyway", x.keep(2), 0);
        // pride 2 of 4: 0, 1, 2 come one by one, so that 0 is enough
        check.due("keep(4)", x.keep(4), 1);
        PanNights y = of("person needs 8 thirst 0 pride 1 purse 0;" + times("person needs 8 thirst 0 pride 1 purse 0 begins", 3), null);
        check.due("all at home", y.keep(0), 0b1110);
        check.due("two of three: two at home", of("person needs 8 thirst 0 pride 2 purse 0;"
            + times("person needs 8 thirst 0 pride 1 purse 0 begins", 3), null).keep(0), 0b0110);
        check.due("loud ones first", of("person needs 8 thirst 0 pride 3 purse 0;"
            + times("person needs 8 thirst 0 pride 1 purse 0 begins", 3), "pan 5 if who > 2").keep(0), 0b1000);
        check.due("pride 0", of("person needs 8 thirst 0 pride 0 purse 0;person needs 0 thirst 0 pride 0 purse 0", null).keep(0), -1);
        check.due("pride 0, nobody comes", of("person needs 8 thirst 0 pride 0 purse 0", null).keep(0), -1);
        check.due("keep(5)", () -> x.keep(5), OUT);
        check.due("keep(-1)", () -> x.keep(-1), OUT);
    }

    // ---- promise 23
    private void tipping() {
        PanNights x = five();
        check.due("tips(1)", x.tips(1), 0);
        // without 1 (needs 1) 0 is alone; without 0 nobody comes
        check.due("tips(4)", x.tips(4), 0);
        PanNights y = of("person needs 8 thirst 0 pride 1 purse 0;person needs 2 thirst 0 pride 1 purse 0;person needs 1 thirst 0 pride 1 purse 0;"
            + "person needs 0 thirst 0 pride 1 purse 0", null);
        check.due("tips(0)", y.tips(0), 3);
        PanNights z = of(times("person needs 0 thirst 0 pride 1 purse 0", 3), null);
        check.due("of several the least", z.tips(0), 1);
        z.teach(0, 1);
        z.teach(1, 1);
        z.teach(2, 1);
        check.due("nobody comes", z.tips(0), -1);
        check.due("tips(3)", () -> z.tips(3), OUT);
        check.due("tips(-1)", () -> z.tips(-1), OUT);
    }

    // ---- promises 24 to 28
    private void prices() {
        PanNights x = five();
        check.due("price(1)", x.price(1), 9);
        check.due("can(1)", x.can(1), true);
        check.due("can(2): a purse of 5", x.can(2), false);
        x.give(2, 4);
        check.due("can(2): a purse of 9", x.can(2), true);
        // to 1: noise 3 by pride 3, purse 20, price 9; to 4: noise 3 by pride 2, purse 30, price 9; to 0: noise 3 by pride 4
        check.due("dearest", x.dearest(), 1);
        check.due("brings(3)", x.brings(3), 18);
        check.due("brings(0)", x.brings(0), 0);
        // 1 has 20: up to 6 each; 4 has 30: up to 10 each
        check.due("brings(6)", x.brings(6), 36);
        check.due("brings(7)", x.brings(7), 21);
        check.due("brings(10)", x.brings(10), 30);
        check.due("brings(11)", x.brings(11), 0);
        check.due("best", x.best(), 6);
        x.give(4, 6);
        check.due("brings(12)", x.brings(12), 36);
        check.due("best: of several the least", x.best(), 6);
        PanNights rich = of(times("person needs 0 thirst 0 pride 1 purse 20", 2), null);
        check.due("best: the greatest", rich.best(), 20);
        check.due("brings(20)", rich.brings(20), 40);
        x.give(4, 3);
        check.due("best", x.best(), 13);
        check.due("brings(21)", () -> x.brings(21), ARG);
        check.due("brings(-1)", () -> x.brings(-1), ARG);
        check.due("price(5)", () -> x.price(5), OUT);
        check.due("can(-1)", () -> x.can(-1), OUT);
        // the greater price by a larger crowd
        PanNights y = of("person needs 0 thirst 0 pride 1 purse 9;person needs 8 thirst 0 pride 1 purse 9;person needs 1 thirst 0 pride 1 purse 9", null);
        check.due("dearest", y.dearest(), 1);
        read(y, "ale 0", false);
        check.due("dearest by ale 0", y.dearest(), 1);
        PanNights z = of("person needs 8 thirst 0 pride 0 purse 9", null);
        check.due("nobody comes", z.dearest(), -1);
        PanNights w = of(times("person needs 0 thirst 0 pride 1 purse 1", 2), null);
        check.due("nobody can", w.dearest(), -1);
        check.due("brings(2)", w.brings(2), 0);
        check.due("best", w.best(), 1);
        read(w, "ale 1", false);
        check.due("of several the least", w.dearest(), 0);
        w.begin(0, false);
        check.due("pride 2 is not met", of(times("person needs 0 thirst 0 pride 2 purse 9", 2), null).brings(1), 0);
    }

    // ---- promise 29
    private void resting() {
        PanNights x = five();
        // to 1: price 9, thirst 9, noise 3, wrong 3
        check.due("rests(1)", x.rests(1), 1 << 2 | 1 << 5);
        x.wrong(1, 2);
        check.due("rests(1) by a smaller wrong", x.rests(1), 1 << 5);
        read(x, "ale 1", false);
        x.wrong(1, 9);
        check.due("rests(1): price as noise", x.rests(1), 1 << 0 | 1 << 2 | 1 << 5);
        read(x, "ale 0", false);
        check.due("rests(1): price 0", x.rests(1), 1 << 0 | 1 << 5);
        // thirst 0 of all: the village has nothing by coming to one who pays, as by not coming
        PanNights y = of("person needs 8 thirst 0 pride 1 purse 0;person needs 0 thirst 0 pride 1 purse 0;ale 1;wrong 0 9", null);
        check.due("rests(0)", y.rests(0), 1 << 0 | 1 << 2 | 1 << 5);
        // nobody comes: all nothing, but dancing for nobody costs the village 1 and the one its wrong
        PanNights z = of("person needs 8 thirst 0 pride 1 purse 0;wrong 0 9", null);
        check.due("rests of nobody", z.rests(0), 1 << 0 | 1 << 2 | 1 << 3 | 1 << 5);
        check.due("rests(1)", () -> z.rests(1), OUT);
        check.due("rests(-1)", () -> z.rests(-1), OUT);
    }

    private String hear(PanNights x, int target, boolean sure, int... bytes) {
        tape(x, bytes(bytes));
        return Check.answer(() -> x.heard(target, sure));
    }

    private String asked(PanNights x, int target, int... bytes) {
        tape(x, bytes(bytes));
        return Check.answer(() -> x.ask(target));
    }

    // ---- promise 30
    private void hearing() {
        PanNights x = five();
        check.due("none told", hear(x, 1, false), 16);
        check.due("sure of none told", hear(x, 1, true), 0);
        // 4 ahead of 0: 4 begins and 0 does not (0 comes in round 1 at the latest); 2 and 3 are free
        check.due("4 ahead of 0", hear(x, 1, false, 4, 0), 4);
        check.due("sure of it", hear(x, 1, true, 4, 0), 0b10000);
        // 0 ahead of 2, to 1: 2 is not among them and comes later than 0: with 0 alone there is one, so 2 stays away;
        // by {0, 3}, {0, 4}, {0, 3, 4} in round 1; by {3}, {4} 0 in round 1 and 2 in round 2; by {3, 4} both in round 1
        check.due("0 ahead of 2", hear(x, 1, false, 0, 2), 5);
        check.due("sure", hear(x, 1, true, 0, 2), 0);
        check.due("both ways", hear(x, 1, false, 4, 0, 0, 4), 0);
        check.due("sure of nothing", hear(x, 1, true, 4, 0, 0, 4), 0);
        check.due("told twice", hear(x, 1, false, 4, 0, 4, 0), 4);
        // 0 comes by itself in round 1, so that 2, 3 and 4 must be beginners
        check.due("one set alone", hear(x, 1, false, 4, 0, 3, 0, 2, 0), 1);
        check.due("sure of it", hear(x, 1, true, 4, 0, 3, 0, 2, 0), 0b11100);
        check.due("3 ahead of 2 ", hear(x, 1, true, 3, 4, 3, 2, 4, 2), 0);
        int[] twenty = new int[40];
        int[] more = new int[42];
        for (int i = 0; i < 42; i++) {
            more[i] = i % 2 == 0 ? 4 : 0;
            if (i < 40) {
                twenty[i] = more[i];
            }
        }
        check.due("40 bytes", hear(x, 1, false, twenty), 4);
        check.due("42 bytes", hear(x, 1, false, more), ARG);
        check.due("one byte", hear(x, 1, false, 4), ARG);
        check.due("three bytes", hear(x, 1, false, 4, 0, 2), ARG);
        check.due("no such person", hear(x, 1, false, 4, 5), ARG);
        check.due("no such person", hear(x, 1, false, 255, 4), ARG);
        check.due("the told one", hear(x, 1, false, 1, 4), ARG);
        check.due("the told one", hear(x, 1, true, 4, 1), ARG);
        check.due("one twice", hear(x, 1, true, 4, 4), ARG);
        check.due("no such one", hear(x, 5, true, 4, 4), OUT);
        check.due("used up", x.end(1), false);
        check.due("no such one", hear(x, -1, true), OUT);
        tape(x, bytes(4, 4));
        Check.answer(() -> x.heard(1, true));
        check.due("used up by a wrong one", x.end(1), false);
        check.due("fault is of texts", x.fault(), -1);
        PanNights y = of("person needs 0 thirst 0 pride 0 purse 0 begins", null);
        check.due("the only one", hear(y, 0, false), 1);
        check.due("the only one, sure", hear(y, 0, true), 0);
    }

    // ---- promise 31
    private void asking() {
        PanNights x = five();
        check.due("none told: the least other one", asked(x, 0), 1);
        check.due("4 ahead of 0: 2 and 3 part them", asked(x, 1, 4, 0), 2);
        // {0, 3}, {0, 4}, {0, 3, 4}, {3}, {4}: 0 parts 3 to 2, 2 parts none, 3 parts 3 to 2
        check.due("0 ahead of 2", asked(x, 1, 0, 2), 0);
        check.due("none fits", asked(x, 1, 4, 0, 0, 4), -1);
        check.due("two fit: 3 parts them", asked(x, 1, 4, 0, 2, 0), 3);
        check.due("one fits alone", asked(x, 1, 4, 0, 3, 0, 2, 0), -1);
        check.due("no such person", asked(x, 1, 4, 5), ARG);
        check.due("the told one", asked(x, 1, 4, 1), ARG);
        check.due("one twice", asked(x, 1, 4, 4), ARG);
        check.due("one byte", asked(x, 1, 4), ARG);
        check.due("no such one", asked(x, 5, 4), OUT);
        check.due("used up", x.end(1), false);
    }

    // ---- promises 32 to 35
    private void feuding() {
        PanNights x = five();
        check.due("feuded(1)", x.feuded(1), 0b101);
        check.due("feuded(0)", x.feuded(0), 0b010);
        check.due("feuded(4)", x.feuded(4), 0);
        x.teach(2, 8);
        check.due("one stays away", x.feuded(1), 0b001);
        check.due("feuds", x.feuds(), 1);
        x.feud(3, 4);
        check.due("one way alone", x.feuds(), 1);
        x.feud(4, 3);
        check.due("feuds", x.feuds(), 2);
        check.due("ring(0)", x.ring(0), true);
        check.due("ring(2): leads into one", x.ring(2), false);
        x.feud(1, -1);
        check.due("ring(0)", x.ring(0), false);
        x.feud(1, 2);
        x.feud(2, 0);
        check.due("ring of three", x.ring(1), true);
        check.due("feuds of a ring of three", x.feuds(), 1);
        PanNights y = of(times("person needs 0 thirst 0 pride 1 purse 0", 8), null);
        for (int p = 0; p < 8; p++) {
            check.due("no ring", y.ring(p), false);
        }
        check.due("nobody is hated", y.hated(), -1);
        for (int p = 0; p < 8; p++) {
            y.feud(p, (p + 3) % 8);
        }
        check.due("ring of eight", y.ring(5), true);
        check.due("all hated alike", y.hated(), 0);
        y.feud(0, 5);
        check.due("hated", y.hated(), 5);
        y.feud(1, 5);
        y.feud(3, 7);
        y.feud(5, 7);
        check.due("hated by most", y.hated(), 5);
        y.feud(6, 7);
        check.due("hated, three each", y.hated(), 7);
        check.due("ring(8)", () -> y.ring(8), OUT);
        check.due("ring(-1)", () -> y.ring(-1), OUT);
        check.due("feuded(8)", () -> y.feuded(8), OUT);
    }

    // ---- promises 36, 37
    private void magistrate() {
        PanNights x = five();
        // to 1 come 0 (50), 2 (5), 4 (30): 10 + 5 + 10
        check.due("watched(1)", x.watched(1), 25);
        check.due("watched(2)", x.watched(2), 30);
        check.due("watched(3)", x.watched(3), 35);
        check.due("ripest", x.ripest(), 3);
        x.feud(0, -1);
        read(x, "fine 5", false);
        check.due("watched(1)", x.watched(1), 15);
        x.give(3, 5);
        x.teach(3, 0);
        check.due("of several the least", x.ripest(), 0);
        read(x, "fine 0", false);
        check.due("no fine", x.ripest(), -1);
        check.due("one coin", of("person needs 8 thirst 0 pride 0 purse 0;person needs 0 thirst 0 pride 0 purse 1", null).ripest(), 0);
        check.due("watched(5)", () -> x.watched(5), OUT);
        check.due("watched(-1)", () -> x.watched(-1), OUT);
    }

    // ---- promises 38, 39
    private void braveAndAlike() {
        PanNights x = of(FIVE, "spare 4 if feud;need 3 if strange");
        check.due("brave(0)", x.brave(0), 1);
        // 0 and 2 need nothing against 1
        check.due("brave(1)", x.brave(1), 0);
        check.due("brave(4)", x.brave(4), 0);
        x.teach(0, 8);
        check.due("brave(4)", x.brave(4), 1);
        check.due("brave(1)", x.brave(1), 2);
        check.due("brave(5)", () -> x.brave(5), OUT);
        check.due("brave(-1)", () -> x.brave(-1), OUT);
        PanNights one = of("person needs 0 thirst 0 pride 0 purse 0", null);
        check.due("no other", one.brave(0), -1);
        check.due("alike of one", one.alike(), 0);
        check.due("alike", x.alike(), 0);
        PanNights y = of("person needs 1 thirst 2 pride 3 purse 4;person needs 1 thirst 2 pride 3 purse 5 strange begins;person needs 1 thirst 2 pride 3 purse 6;"
            + "person needs 2 thirst 2 pride 3 purse 4;person needs 1 thirst 1 pride 3 purse 4;person needs 1 thirst 2 pride 4 purse 4", null);
        check.due("three alike are three pairs", y.alike(), 3);
        y.teach(3, 1);
        check.due("four alike", y.alike(), 6);
    }

    // ---- promises 40 to 42
    private void ahead() {
        PanNights x = of("person needs 8 thirst 0 pride 3 purse 9;person needs 0 thirst 2 pride 1 purse 5 begins;wrong 0 1;ale 9;rain 100;watch 100",
            "pan 1;need 9 if wet");
        check.due("without a target", x.ends(), -1);
        check.due("calm without", x.calm(9), 0);
        check.due("spent without", x.spent(0, 60), 0);
        x.name(0);
        // two pans a night, by 4: nothing; three nights
        check.due("ends", x.ends(), 3);
        check.due("calm(60)", x.calm(60), 3);
        read(x, "", true);
        read(x, "pan 4", true);
        // five pans are more than its pride: the ale is 9, the purse too
        check.due("ends", x.ends(), 1);
        check.due("spent(0, 0)", x.spent(0, 0), 0);
        check.due("spent(0, 1)", x.spent(0, 1), 9);
        check.due("spent(0, 60)", x.spent(0, 60), 9);
        check.due("spent(1, 60): nobody watches", x.spent(1, 60), 0);
        check.due("calm(0)", x.calm(0), 3);
        check.due("calm(1)", x.calm(1), 3);
        read(x, "person needs 8 thirst 0 pride 9 purse 0;target 2", false);
        // to 2: 1 begins (5 pans): 9, then 8, then 7, then it is over
        check.due("ends", x.ends(), 3);
        check.due("calm(1)", x.calm(1), 8);
        check.due("calm(2)", x.calm(2), 7);
        check.due("calm(3)", x.calm(3), 6);
        check.due("calm(60)", x.calm(60), 6);
        x.nights(1);
        check.due("ends then", x.ends(), 2);
        check.due("nothing stays", x.count(3), 1);
        check.due("no draws", x.seed(5), (1103515245 + 12345) * 1103515245 + 12345);
        // wet now, dry ahead
        check.due("wet", x.count(4), 1);
        read(x, "need 9 if wet;spare 9 if not wet;pan 4", true);
        // dry: 0, 1 come (10 pans): 9 - 2
        x.wrong(2, 1);
        check.due("calm(1) in the dry", x.calm(1), x.person(2, 2) - 2);
        check.due("calm(61)", () -> x.calm(61), ARG);
        check.due("calm(-1)", () -> x.calm(-1), ARG);
        check.due("spent(0, 61)", () -> x.spent(0, 61), ARG);
        check.due("spent(0, -1)", () -> x.spent(0, -1), ARG);
        check.due("spent(3, 61)", () -> x.spent(3, 61), OUT);
        check.due("spent(-1, -1)", () -> x.spent(-1, -1), OUT);
    }

    // ---- promise 43
    private void shares() {
        PanNights x = of(FIVE, "pan 3 if feud;pan 1 if who > 3");
        check.due("share(0, 1)", x.share(0, 1), 40);
        check.due("share(4, 1)", x.share(4, 1), 20);
        check.due("share(3, 1)", x.share(3, 1), 0);
        check.due("rounded down", five().share(0, 1), 33);
        check.due("share(1, 1)", () -> x.share(1, 1), ARG);
        check.due("share(5, 5)", () -> x.share(5, 5), OUT);
        check.due("share(0, 5)", () -> x.share(0, 5), OUT);
        check.due("share(-1, 0)", () -> x.share(-1, 0), OUT);
        PanNights y = of(times("person needs 1 thirst 0 pride 1 purse 0", 2), null);
        check.due("nobody comes", y.share(0, 1), 0);
        y.begin(0, true);
        check.due("one alone", y.share(0, 1), 100);
    }

    // ---- promises 44, 45
    private void trials() {
        String text = "person needs 8 thirst 0 pride 2 purse 50;person needs 0 thirst 2 pride 1 purse 50;person needs 1 thirst 2 pride 1 purse 50;"
            + "wrong 0 1;target 0;ale 4;fine 7;watch 50;rain 50";
        PanNights x = of(text, "need 1 if wet");
        int least = Integer.MAX_VALUE;
        int most = 0;
        for (int seed = 1; seed <= 6; seed++) {
            PanNights y = of(text, "need 1 if wet");
            y.seed(seed);
            check.due("trial(2) as it comes", y.trial(2, false), after(y, 2, 12));
            check.due("target of trial(2)", y.trial(2, true), after(y, 2, 5));
            int sum = after(y, 2, 12);
            least = Math.min(least, sum);
            most = Math.max(most, sum);
        }
        check.due("there is a span", least < most, true);
        check.due("span least", x.span(2, false), least);
        check.due("span most", x.span(2, true), most);
        x.seed(9);
        check.due("span looks at no seed", x.span(2, true), most);
        check.due("seed stays", x.seed(1), 9);
        check.due("nothing stays", x.count(3), 0);
        check.due("no row", x.count(13), 0);
        check.due("no act", x.count(14), 0);
        check.due("trial(0)", x.trial(0, false), 150);
        check.due("trial(0) target", x.trial(0, true), 0);
        check.due("trial(60) target", x.trial(60, true), -1);
        check.due("span(0)", x.span(0, false), 150);
        check.due("trial(61)", () -> x.trial(61, true), ARG);
        check.due("trial(-1)", () -> x.trial(-1, false), ARG);
        check.due("span(61)", () -> x.span(61, true), ARG);
        check.due("span(-1)", () -> x.span(-1, false), ARG);
    }

    /** A count after so many nights, which are undone. */
    private static int after(PanNights x, int nights, int what) {
        x.nights(nights);
        int answer = x.count(what);
        x.undo();
        return answer;
    }

    // ---- promises 46, 47
    private void theLog() {
        PanNights x = of("person needs 8 thirst 0 pride 99 purse 9;person needs 0 thirst 2 pride 99 purse 5;person needs 0 thirst 2 pride 99 purse 5;wrong 0 1;wrong 1 1;night 10", null);
        check.due("led without", x.led(0, false), 0);
        check.due("led without", x.led(0, true), -1);
        x.nights(5);
        check.due("no rows without a target", x.count(13), 0);
        x.name(0);
        x.nights(2);
        x.name(1);
        x.nights(1);
        check.due("rows", x.count(13), 3);
        check.due("led(0)", x.led(0, false), 2);
        check.due("led(0) night", x.led(0, true), 16);
        check.due("led(1)", x.led(1, false), 1);
        check.due("led(1) night", x.led(1, true), 17);
        check.due("led(2)", x.led(2, false), 0);
        check.due("led(2) night", x.led(2, true), -1);
        int[][] rows = {{17, 1, 1, 3}, {16, 0, 2, 3}, {15, 0, 2, 3}, {-1, -1, -1, -1}};
        for (int ago = 0; ago < rows.length; ago++) {
            for (int what = 0; what < 4; what++) {
                check.due("log(" + ago + ", " + what + ")", x.log(ago, what), rows[ago][what]);
            }
        }
        check.due("log(-1, 0)", x.log(-1, 0), -1);
        check.due("log(max, 0)", x.log(Integer.MAX_VALUE, 0), -1);
        check.due("log(0, 4)", () -> x.log(0, 4), NO_SUCH);
        check.due("log(0, -1)", () -> x.log(0, -1), NO_SUCH);
        check.due("log(99, 4)", () -> x.log(99, 4), NO_SUCH);
        check.due("led(3)", () -> x.led(3, true), OUT);
        check.due("led(-1)", () -> x.led(-1, false), OUT);
        x.nights(2);
        for (int i = 0; i < 19; i++) {
            x.wrong(0, 1);
            x.name(0);
            x.nights(3);
        }
        check.due("60 rows at most", x.count(13), 60);
        check.due("the latest", x.log(0, 0), 76);
        check.due("the oldest kept", x.log(59, 0), 17);
        check.due("none behind it", x.log(60, 0), -1);
        check.due("led(1)", x.led(1, false), 3);
        check.due("led(0)", x.led(0, false), 57);
        x.wrong(1, 1);
        x.name(1);
        x.nights(1);
        check.due("the oldest is gone", x.log(59, 0), 18);
        x.undo();
        check.due("and there again", x.log(59, 0), 17);
        check.due("its target", x.log(59, 1), 1);
        x.nights(1);
        check.due("and gone again", x.log(59, 0), 18);
        check.due("led(1)", x.led(1, false), 3);
        check.due("led(1) night", x.led(1, true), 77);
    }

    // ---- promise 49
    private void undoing() {
        PanNights x = five();
        x.seed(3);
        x.name(1);
        x.seed(4);
        check.due("undo", x.undo(), true);
        check.due("no target", x.count(5), -1);
        check.due("the seed as ahead of it", x.seed(5), 3);
        check.due("no more", x.undo(), false);
        x.name(1);
        x.begin(0, true);
        x.feud(0, 4);
        x.teach(0, 7);
        x.wrong(0, 7);
        x.give(0, 7);
        x.nights(2);
        x.name(4);
        x.buy();
        check.due("acts", x.count(14), 9);
        check.due("undo buy", x.undo(), true);
        check.due("target", x.count(5), 4);
        check.due("undo name", x.undo(), true);
        check.due("target", x.count(5), -1);
        check.due("rows", x.count(13), 1);
        check.due("undo nights", x.undo(), true);
        check.due("night", x.count(3), 0);
        check.due("rows", x.count(13), 0);
        check.due("target", x.count(5), 1);
        check.due("seed", x.seed(5), 5);
        facts(x, 0, 7, 3, 4, 57, 7, 4, 0, 1);
        x.undo();
        facts(x, 0, 7, 3, 4, 50, 7, 4, 0, 1);
        x.undo();
        facts(x, 0, 7, 3, 4, 50, 0, 4, 0, 1);
        x.undo();
        facts(x, 0, 0, 3, 4, 50, 0, 4, 0, 1);
        x.undo();
        facts(x, 0, 0, 3, 4, 50, 0, 1, 0, 1);
        x.undo();
        facts(x, 0, 0, 3, 4, 50, 0, 1, 0, 0);
        check.due("acts", x.count(14), 1);
        x.undo();
        check.due("target", x.count(5), -1);
        check.due("no more", x.undo(), false);
        for (int i = 0; i < 15; i++) {
            x.give(0, 1);
        }
        check.due("12 are remembered", x.count(14), 12);
        for (int i = 0; i < 12; i++) {
            check.due("undo", x.undo(), true);
        }
        check.due("no 13th", x.undo(), false);
        check.due("three stay", x.person(0, 3), 53);
        x.give(0, 1);
        tape(x, "fine 31");
        Check.answer(() -> x.village());
        check.due("a wrong text forgets nothing", x.count(14), 1);
        x.feed(0, 0, 0, 0, 0);
        check.due("undo", x.undo(), true);
        check.due("but not the tape", x.end(20), true);
        check.due("nor the fault", x.fault(), 5);
        x.give(0, 1);
        read(x, "", false);
        check.due("a text: none are remembered", x.count(14), 0);
        check.due("so", x.undo(), false);
        x.give(0, 1);
        read(x, "", true);
        check.due("a law: none are remembered", x.undo(), false);
    }

    /** Rain and rows of the log come back, too. */
    private void undoingNights() {
        PanNights x = of("person needs 8 thirst 0 pride 99 purse 9;person needs 0 thirst 2 pride 99 purse 5;wrong 0 1;wrong 1 1;rain 100", null);
        x.name(0);
        x.nights(1);
        check.due("wet", x.count(4), 1);
        check.due("undo", x.undo(), true);
        check.due("not wet", x.count(4), 0);
        x.nights(2);
        x.name(1);
        x.nights(1);
        x.undo();
        check.due("rows", x.count(13), 2);
        check.due("the latest row", x.log(0, 0), 1);
        check.due("its target", x.log(0, 1), 0);
        x.undo();
        x.nights(1);
        check.due("the third row", x.log(0, 0), 2);
        check.due("the second row", x.log(1, 0), 1);
        check.due("the first row", x.log(2, 0), 0);
        x.image();
        x.wrong(1, 1);
        x.name(1);
        x.nights(3);
        x.back();
        check.due("rows of the image", x.count(13), 3);
        check.due("the latest row of the image", x.log(0, 1), 0);
        check.due("wet as in the image", x.count(4), 1);
        // another row comes in the place of an undone one, which the image has still
        x.wrong(0, 1);
        x.name(0);
        x.nights(1);
        x.image();
        x.undo();
        x.wrong(1, 1);
        x.name(1);
        x.nights(1);
        check.due("the other row", x.log(0, 1), 1);
        x.back();
        check.due("the row of the image", x.log(0, 1), 0);
        check.due("rows", x.count(13), 4);
        x.nights(1);
        read(x, "rain 0", false);
        x.nights(1);
        check.due("dry", x.count(4), 0);
        x.undo();
        check.due("wet as ahead of it", x.count(4), 1);
    }

    // ---- promises 50, 51
    private void theImage() {
        PanNights x = five();
        x.name(1);
        x.seed(8);
        x.image();
        check.due("an image is no act", x.count(14), 1);
        read(x, "pan 1", true);
        read(x, "person needs 0 thirst 0 pride 0 purse 7;ale 9", false);
        x.nights(3);
        read(x, "ale 21", false);
        x.feed(0, 0, 0, 0, 0);
        x.begin(0, true);
        check.due("back", x.back(), true);
        check.due("texts", x.count(1), 1);
        check.due("no law", x.count(2), -1);
        check.due("people", x.count(0), 5);
        check.due("ale", x.count(10), 3);
        check.due("target", x.count(5), 1);
        check.due("night", x.count(3), 0);
        check.due("rows", x.count(13), 0);
        check.due("purses", x.count(12), 105);
        check.due("none are remembered", x.count(14), 0);
        check.due("seed", x.seed(1), 8);
        check.due("the tape stays", x.end(20), true);
        check.due("the fault stays", x.fault(), 4);
        check.due("undo", x.undo(), false);
        x.give(0, 5);
        check.due("back again", x.back(), true);
        check.due("purses", x.count(12), 105);
        x.give(0, 5);
        x.image();
        x.undo();
        check.due("the image is not undone", x.back(), true);
        check.due("purses", x.count(12), 110);
        read(x, "pan 2", true);
        x.image();
        read(x, "pan 3;pan 4", true);
        x.back();
        check.due("the law of the image", x.against(0, 1, true), 3);
        check.due("its lines", x.count(2), 1);
        PanNights y = new PanNights();
        check.due("none kept", y.back(), false);
        y.image();
        read(y, FIVE, false);
        y.give(0, 1);
        check.due("back to nobody", y.back(), true);
        check.due("nobody", y.count(0), 0);
        check.due("no text", y.count(1), 0);
        PanNights z = five();
        z.give(0, 1);
        check.due("none kept", z.back(), false);
        check.due("nothing happens", z.count(14), 1);
    }

    // ---- promise 52
    private void counts() {
        PanNights x = of(FIVE, "need 30 if wet");
        read(x, "rain 100;watch 7;night 8;target 4", false);
        x.nights(2);
        x.begin(0, true);
        int[] want = {5, 2, 1, 10, 1, 4, 2, 100, 7, 10, 3, 0b10001, 105, 2, 2};
        for (int what = 0; what < want.length; what++) {
            check.due("count(" + what + ")", x.count(what), want[what]);
        }
        for (int far : FAR) {
            check.due("count(" + far + ")", x.count(far), -1);
        }
        check.due("count(15)", x.count(15), -1);
        check.due("NONE", PanNights.NONE, -1);
    }

    /** What a call that throws leaves: all as it was, acts too. */
    private void throwingChangesNothing() {
        PanNights x = five();
        x.name(1);
        String was = whole(x);
        Check.Call[] calls = {() -> x.name(0), () -> x.name(9), () -> x.begin(9, true), () -> x.feud(1, 1), () -> x.feud(1, 9), () -> x.teach(1, 9),
            () -> x.wrong(1, 10), () -> x.give(1, 0), () -> x.nights(61), () -> x.spent(0, 61), () -> x.calm(61), () -> x.trial(61, true),
            () -> x.span(61, true), () -> x.heard(9, true), () -> x.ask(9), () -> x.log(0, 9), () -> x.person(0, 9), () -> x.fewest(0, 9)};
        for (int i = 0; i < calls.length; i++) {
            check.due("call " + i + " throws", Check.answer(calls[i]).startsWith("throws."), true);
            check.due("all as it was after call " + i, whole(x), was);
        }
        read(x, "ale 4;ale 44", false);
        check.due("all as it was after a wrong village", whole(x), was);
        read(x, "pan 4;pan 44", true);
        check.due("all as it was after a wrong law", whole(x), was);
    }

    private static String whole(PanNights x) {
        StringBuilder s = new StringBuilder();
        for (int what = 0; what < 15; what++) {
            s.append(x.count(what)).append(' ');
        }
        for (int p = 0; p < x.count(0); p++) {
            for (int what = 0; what < 8; what++) {
                s.append(x.person(p, what)).append(' ');
            }
        }
        int seed = x.seed(0);
        x.seed(seed);
        return s.append(seed).toString();
    }
}
