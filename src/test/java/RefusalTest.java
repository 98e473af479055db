import java.util.function.Function;

/**
 * Each refused call, with what it leaves: two objects are made alike, one of them refuses a call, and all that can be
 * seen of both, the hidden things too (the tape, each act undone, the image), is the same then.
 */
public final class RefusalTest extends Cases {
    private static final String NOTHING_CHANGES = "a call that throws changes nothing but the TAPE, where it is used up.";

    private RefusalTest() {
        super("RefusalTest");
    }

    public static void main(String[] args) {
        RefusalTest t = new RefusalTest();
        t.likeObjectsAreSeenAlike();
        t.changesAreSeen();
        t.noSuchPerson();
        t.noSuchNumber();
        t.twoAreOne();
        t.noSuchWhat();
        t.cannotBe();
        t.wrongTexts();
        t.thirteenthText();
        t.wrongPairs();
        t.answersOfNone();
        t.questionsLeaveAll();
        t.check.close();
    }

    /** Three people, a law, an image, two nights in the log, five acts, a fault of 4, and a text on the tape. */
    private static PanNights made() {
        PanNights x = of(person(0, 3, 90, 1) + ";" + person(1, 2, 5, 20) + " strange;" + person(0, 1, 9, 300) + ";wrong 0 2;wrong 1 3;feud 2 with 0;rain 40;watch 30",
            "pan 2 if feud;need 1 if wet and night > 3;spare 1 if borne > 0");
        x.begin(1, true);
        x.image();
        read(x, "ale 21", false);
        x.seed(11);
        x.name(0);
        x.nights(2);
        x.feud(1, 2);
        x.give(2, 5);
        tape(x, "fine 12");
        return x;
    }

    private void refused(String call, Function<PanNights, Object> make, String want) {
        PanNights x = made();
        check.due(call, () -> make.apply(x), want);
        check.due("fault after " + call, x.fault(), 4);
        same("after " + call, x, made());
    }

    /** A call that uses the tape up, then throws: the fault is that of the text, if it is one. */
    private void refusedText(String text, Function<PanNights, Object> make, String want, int fault) {
        PanNights x = made();
        tape(x, text);
        check.due("by " + text, () -> make.apply(x), want);
        check.due("fault of " + text, x.fault(), fault);
        PanNights y = made();
        y.end(0);
        same("after " + text, x, y);
    }

    /** Where they are not the same, the first line that differs is told. */
    private void same(String when, PanNights x, PanNights y) {
        String[] got = Whole.hidden(x).split("\n");
        String[] want = Whole.hidden(y).split("\n");
        int line = 0;
        while (line < Math.min(got.length, want.length) - 1 && got[line].equals(want[line])) {
            line++;
        }
        check.due("all as it was " + when, got[line], want[line]);
        check.due("as many lines " + when, got.length, want.length);
    }

    private void likeObjectsAreSeenAlike() {
        check.says(NOTHING_CHANGES);
        PanNights x = made();
        check.due("acts", x.count(14), 5);
        check.due("rows", x.count(13), 2);
        check.due("target", x.count(5), 0);
        check.due("fault", x.fault(), 4);
        same("if nothing was called", x, made());
    }

    /** The two would differ, if a call had changed anything. */
    private void changesAreSeen() {
        check.says(NOTHING_CHANGES);
        differs("an act", x -> x.give(0, 1));
        differs("an act that changes nothing", x -> x.begin(1, true));
        differs("an act undone", x -> x.undo());
        differs("another seed", x -> x.seed(1));
        differs("another image", x -> imageOf(x));
        differs("a byte less", x -> x.end(6));
        differs("no tape", x -> x.end(0));
        differs("another byte on the tape", x -> retape(x, "fine 13"));
        differs("a text", x -> x.village());
        differs("a law", x -> retapedLaw(x));
        differs("a night", x -> x.nights(1));
        differs("gone back", x -> x.back());
    }

    private static Object imageOf(PanNights x) {
        x.image();
        return true;
    }

    private static Object retape(PanNights x, String text) {
        tape(x, text);
        return true;
    }

    private static Object retapedLaw(PanNights x) {
        tape(x, "");
        return x.law();
    }

    private void differs(String what, Function<PanNights, Object> make) {
        PanNights x = made();
        make.apply(x);
        check.due("seen: " + what, Whole.hidden(x).equals(Whole.hidden(made())), false);
    }

    private void noSuchPerson() {
        check.says(NOTHING_CHANGES);
        for (int n : new int[] {-1, 3, Integer.MIN_VALUE, Integer.MAX_VALUE}) {
            refused("person(" + n + ", 0)", x -> x.person(n, 0), OUT);
            refused("against(" + n + ", 0)", x -> x.against(n, 0, true), OUT);
            refused("against(0, " + n + ")", x -> x.against(0, n, false), OUT);
            refused("name(" + n + ")", x -> x.name(n), OUT);
            refused("begin(" + n + ")", x -> x.begin(n, true), OUT);
            refused("feud(" + n + ", 0)", x -> x.feud(n, 0), OUT);
            refused("feud(" + n + ", NONE)", x -> x.feud(n, -1), OUT);
            refused("feud(0, ..)", x -> x.feud(0, n == -1 ? -2 : n), OUT);
            refused("teach(" + n + ", 1)", x -> x.teach(n, 1), OUT);
            refused("wrong(" + n + ", 1)", x -> x.wrong(n, 1), OUT);
            refused("give(" + n + ", 1)", x -> x.give(n, 1), OUT);
            refused("comes(" + n + ")", x -> x.comes(n), OUT);
            refused("rounds(" + n + ")", x -> x.rounds(n), OUT);
            refused("when(" + n + ", 0)", x -> x.when(n, 0), OUT);
            refused("when(0, " + n + ")", x -> x.when(0, n), OUT);
            refused("loud(" + n + ")", x -> x.loud(n), OUT);
            refused("fewest(" + n + ", 1)", x -> x.fewest(n, 1), OUT);
            refused("keep(" + n + ")", x -> x.keep(n), OUT);
            refused("tips(" + n + ")", x -> x.tips(n), OUT);
            refused("price(" + n + ")", x -> x.price(n), OUT);
            refused("can(" + n + ")", x -> x.can(n), OUT);
            refused("rests(" + n + ")", x -> x.rests(n), OUT);
            refused("feuded(" + n + ")", x -> x.feuded(n), OUT);
            refused("ring(" + n + ")", x -> x.ring(n), OUT);
            refused("watched(" + n + ")", x -> x.watched(n), OUT);
            refused("brave(" + n + ")", x -> x.brave(n), OUT);
            refused("spent(" + n + ", 1)", x -> x.spent(n, 1), OUT);
            refused("share(" + n + ", 0)", x -> x.share(n, 0), OUT);
            refused("share(0, " + n + ")", x -> x.share(0, n), OUT);
            refused("led(" + n + ")", x -> x.led(n, true), OUT);
        }
    }

    private void noSuchNumber() {
        check.says(NOTHING_CHANGES);
        for (int n : new int[] {-1, 1000, Integer.MIN_VALUE, Integer.MAX_VALUE}) {
            refused("teach(0, " + n + ")", x -> x.teach(0, n), ARG);
            refused("wrong(0, " + n + ")", x -> x.wrong(0, n), ARG);
            refused("give(0, " + n + ")", x -> x.give(0, n), ARG);
            refused("nights(" + n + ")", x -> x.nights(n), ARG);
            refused("fewest(0, " + n + ")", x -> x.fewest(0, n), ARG);
            refused("brings(" + n + ")", x -> x.brings(n), ARG);
            refused("spent(0, " + n + ")", x -> x.spent(0, n), ARG);
            refused("calm(" + n + ")", x -> x.calm(n), ARG);
            refused("trial(" + n + ")", x -> x.trial(n, true), ARG);
            refused("span(" + n + ")", x -> x.span(n, true), ARG);
        }
        refused("teach(0, 9)", x -> x.teach(0, 9), ARG);
        refused("wrong(0, 10)", x -> x.wrong(0, 10), ARG);
        refused("give(0, 0)", x -> x.give(0, 0), ARG);
        refused("nights(0)", x -> x.nights(0), ARG);
        refused("nights(61)", x -> x.nights(61), ARG);
        refused("fewest(0, 9)", x -> x.fewest(0, 9), ARG);
        refused("brings(21)", x -> x.brings(21), ARG);
        refused("spent(0, 61)", x -> x.spent(0, 61), ARG);
        refused("calm(61)", x -> x.calm(61), ARG);
        refused("trial(61)", x -> x.trial(61, false), ARG);
        refused("span(61)", x -> x.span(61, false), ARG);
    }

    private void twoAreOne() {
        check.says(NOTHING_CHANGES);
        for (int p = 0; p < 3; p++) {
            int one = p;
            refused("against(" + p + " twice)", x -> x.against(one, one, true), ARG);
            refused("feud(" + p + " twice)", x -> x.feud(one, one), ARG);
            refused("when(" + p + " twice)", x -> x.when(one, one), ARG);
            refused("share(" + p + " twice)", x -> x.share(one, one), ARG);
        }
    }

    private void noSuchWhat() {
        check.says(NOTHING_CHANGES);
        for (int n : new int[] {-1, 8, Integer.MIN_VALUE, Integer.MAX_VALUE}) {
            refused("person(0, " + n + ")", x -> x.person(0, n), NO_SUCH);
            refused("log(0, " + n + ")", x -> x.log(0, n), NO_SUCH);
        }
        refused("log(0, 4)", x -> x.log(0, 4), NO_SUCH);
    }

    private void cannotBe() {
        check.says(NOTHING_CHANGES);
        refused("name(2): its wrong is 0", x -> x.name(2), STATE);
        // 1 begins and 2 needs nothing: a price of 4 for a purse of 1
        check.due("the price", made().price(0), 4);
        check.due("the purse", made().person(0, 3) < 4, true);
        refused("buy(): the purse is less", x -> x.buy(), STATE);
        PanNights x = of(times(person(0, 0, 0, 9), 2), null);
        x.give(0, 1);
        check.due("buy() without a target", () -> x.buy(), STATE);
        PanNights y = of(times(person(0, 0, 0, 9), 2), null);
        y.give(0, 1);
        same("after buy() without a target", x, y);
    }

    private void wrongTexts() {
        check.says(NOTHING_CHANGES);
        refusedText("ale 1;" + person(1, 1, 1, 1) + ";target 1;feud 0 with 1;night 7;rain 101", x -> x.village(), ARG, 82);
        refusedText("ale", x -> x.village(), ARG, 3);
        refusedText("?", x -> x.village(), ARG, 0);
        refusedText("wrong 3 1", x -> x.village(), ARG, 6);
        refusedText(times("ale 1", 15), x -> x.village(), ARG, 84);
        refusedText("pan 30;pan 31", x -> x.law(), ARG, 11);
        refusedText("need 1 if", x -> x.law(), ARG, 9);
        refusedText("?", x -> x.law(), ARG, 0);
        refusedText(times("pan 1", 13), x -> x.law(), ARG, 72);
    }

    private void thirteenthText() {
        check.says(NOTHING_CHANGES);
        PanNights[] two = {null, null};
        for (int i = 0; i < 2; i++) {
            two[i] = of(times(person(0, 0, 0, 9), 2), null);
            for (int n = 2; n <= 12; n++) {
                read(two[i], "", false);
            }
            two[i].give(0, 1);
            two[i].image();
            two[i].give(0, 2);
        }
        check.due("a 13th", read(two[0], "ale 7;" + person(1, 1, 1, 1), false), UNSUPPORTED);
        same("after a 13th text", two[0], two[1]);
    }

    private void wrongPairs() {
        check.says(NOTHING_CHANGES);
        String[] wrong = {bytes(1), bytes(1, 1), bytes(0, 1), bytes(1, 0), bytes(1, 3), bytes(3, 1), bytes(255, 1), bytes(1, 2, 2), bytes(1, 2).repeat(21)};
        for (String pairs : wrong) {
            refusedText(pairs, x -> x.heard(0, true), ARG, 4);
            refusedText(pairs, x -> x.heard(0, false), ARG, 4);
            refusedText(pairs, x -> x.ask(0), ARG, 4);
        }
        for (int n : new int[] {-1, 3, Integer.MIN_VALUE, Integer.MAX_VALUE}) {
            refusedText(bytes(1, 2), x -> x.heard(n, true), OUT, 4);
            refusedText(bytes(1, 2), x -> x.heard(n, false), OUT, 4);
            refusedText(bytes(1, 2), x -> x.ask(n), OUT, 4);
        }
    }

    /** Calls that do not throw, but do nothing. */
    private void answersOfNone() {
        check.says("false, and nothing happens, if it has fewer, or n is below 0.");
        for (int n : new int[] {-1, 8, 400, Integer.MIN_VALUE, Integer.MAX_VALUE}) {
            refused("end(" + n + ")", x -> x.end(n), "false");
        }
        refused("end(7), all that there is", x -> x.end(7), "true");
        check.says("NONE for another what.");
        for (int n : new int[] {-1, 15, Integer.MIN_VALUE, Integer.MAX_VALUE}) {
            refused("count(" + n + ")", x -> x.count(n), "-1");
        }
        check.says("NONE without.");
        for (int n : new int[] {-1, 2, Integer.MIN_VALUE, Integer.MAX_VALUE}) {
            refused("log(" + n + ", 0)", x -> x.log(n, 0), "-1");
        }
    }

    private void questionsLeaveAll() {
        check.says("(draws, too; nothing stays)");
        leavesAll("trial", x -> x.trial(60, false));
        leavesAll("trial", x -> x.trial(3, true));
        leavesAll("span", x -> x.span(60, true));
        check.says("(As things are now; BEGINNERS those who are, if not told.)");
        leavesAll("ends", x -> x.ends());
        leavesAll("spent", x -> x.spent(0, 60));
        leavesAll("calm", x -> x.calm(60));
        for (int p = 0; p < 3; p++) {
            int one = p;
            leavesAll("comes", x -> x.comes(one));
            leavesAll("rounds", x -> x.rounds(one));
            leavesAll("when", x -> x.when((one + 1) % 3, one));
            leavesAll("loud", x -> x.loud(one));
            leavesAll("fewest", x -> x.fewest(one, 2));
            leavesAll("keep", x -> x.keep(one));
            leavesAll("tips", x -> x.tips(one));
            leavesAll("price", x -> x.price(one));
            leavesAll("can", x -> x.can(one));
            leavesAll("rests", x -> x.rests(one));
            leavesAll("feuded", x -> x.feuded(one));
            leavesAll("ring", x -> x.ring(one));
            leavesAll("watched", x -> x.watched(one));
            leavesAll("brave", x -> x.brave(one));
            leavesAll("share", x -> x.share((one + 1) % 3, one));
            leavesAll("led", x -> x.led(one, true));
            leavesAll("against", x -> x.against((one + 1) % 3, one, true));
        }
        leavesAll("dearest", x -> x.dearest());
        leavesAll("brings", x -> x.brings(20));
        leavesAll("best", x -> x.best());
        leavesAll("feuds", x -> x.feuds());
        leavesAll("hated", x -> x.hated());
        leavesAll("ripest", x -> x.ripest());
        leavesAll("alike", x -> x.alike());
        leavesAll("fault", x -> x.fault());
    }

    private void leavesAll(String call, Function<PanNights, Object> make) {
        PanNights x = made();
        check.due(call + " answers", Check.answer(() -> make.apply(x)).startsWith("throws."), false);
        check.due("fault after " + call, x.fault(), 4);
        same("after " + call, x, made());
    }
}
