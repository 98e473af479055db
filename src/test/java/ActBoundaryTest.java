/** The edges of promises 9 to 15 and 49 to 52: acts, what of them is undone, the image, the counts. */
public final class ActBoundaryTest extends Cases {
    private ActBoundaryTest() {
        super("ActBoundaryTest");
    }

    public static void main(String[] args) {
        ActBoundaryTest t = new ActBoundaryTest();
        t.naming();
        t.namingAnew();
        t.beginning();
        t.buyingWithout();
        t.buyingByPurse();
        t.buyingAsInANight();
        t.feuding();
        t.teaching();
        t.wronging();
        t.giving();
        t.fullPurse();
        t.twelveActs();
        t.thirteenthAct();
        t.eachKindOfAct();
        t.nightsOfOneCall();
        t.actsThatChangeNothing();
        t.nothingToUndo();
        t.afterATextNone();
        t.afterARefusedTextAll();
        t.afterGoingBackNone();
        t.notUndone();
        t.seedIsUndone();
        t.logIsUndone();
        t.noImage();
        t.theLatestImage();
        t.imageOfAll();
        t.imageLeaves();
        t.emptyImage();
        t.countBounds();
        t.leastAndGreatestCounts();
        t.check.close();
    }

    /** Nobody comes by themselves: 0 and 1 have wrongs, 2 has none. */
    private static PanNights three() {
        return of(times(person(8, 1, 5, 10), 3) + ";wrong 0 1;wrong 1 9", null);
    }

    // ---- promise 9

    private void naming() {
        check.says("A TARGET is named: who was it; NONE. IllegalStateException: its WRONG is 0.");
        PanNights x = three();
        check.due("name(2): its wrong is 0", () -> x.name(2), STATE);
        check.due("name(0): its wrong is 1", x.name(0), -1);
        check.due("name(1): its wrong is 9", x.name(1), 0);
        check.due("name(1) again", x.name(1), 1);
        x.wrong(1, 0);
        check.due("name(1): its wrong is 0 now", () -> x.name(1), STATE);
        check.due("it is the target yet", x.count(5), 1);
        x.wrong(2, 1);
        check.due("name(2): its wrong is 1 now", x.name(2), 1);
        check.says("IndexOutOfBoundsException: there is no such PERSON.");
        bounds("name(..)", n -> x.name(n), 0, 2, OUT);
    }

    private void namingAnew() {
        check.says("a TARGET is named (with WRONG above 0; BORNE 0)");
        PanNights x = three();
        x.name(0);
        x.nights(2);
        check.due("borne", x.count(6), 2);
        check.due("name(2)", () -> x.name(2), STATE);
        check.due("borne as it was", x.count(6), 2);
        x.name(0);
        check.due("borne by the same name", x.count(6), 0);
        x.nights(2);
        check.due("still the target", x.count(5), 0);
        x.name(1);
        check.due("borne by another name", x.count(6), 0);
        x.nights(3);
        check.due("no target", x.count(5), -1);
        check.due("name(0) then", x.name(0), -1);
    }

    // ---- promise 10

    private void beginning() {
        check.says("A BEGINNER, or not: whether that changed.");
        PanNights x = of(times(person(8, 1, 5, 10), 8), null);
        for (int p = 0; p < 8; p++) {
            check.due("not yet, and not", x.begin(p, false), false);
            check.due("it begins", x.begin(p, true), true);
            check.due("it begins already", x.begin(p, true), false);
            check.due("beginners", x.count(11), (2 << p) - 1);
        }
        check.due("all", x.count(11), 255);
        check.due("no more", x.begin(7, false), true);
        check.due("all but 7", x.count(11), 127);
        check.says("IndexOutOfBoundsException: there is no such PERSON.");
        bounds("begin(.., true)", n -> x.begin(n, true), 0, 7, OUT);
        bounds("begin(.., false)", n -> x.begin(n, false), 0, 7, OUT);
    }

    // ---- promise 11

    private void buyingWithout() {
        check.says("IllegalStateException: there is none, or PURSE is less.");
        PanNights x = three();
        check.due("without a target", () -> x.buy(), STATE);
        x.name(0);
        check.due("nobody would come: it costs nothing", x.buy(), 10);
        check.due("without a target again", () -> x.buy(), STATE);
        x.name(1);
        x.nights(3);
        check.due("borne to the end", () -> x.buy(), STATE);
    }

    private void buyingByPurse() {
        check.says("IllegalStateException: there is none, or PURSE is less.");
        for (int ale : new int[] {0, 1, 20}) {
            for (int more = -1; more <= 1; more++) {
                int purse = 7 * ale + more;
                if (purse >= 0) {
                    PanNights x = of(person(8, 0, 99, purse) + ";" + times(person(8, 0, 0, 0) + " begins", 7) + ";ale " + ale + ";target 0", null);
                    check.due("ale " + ale + ", purse " + purse, () -> x.buy(), more >= 0 ? more : STATE);
                    check.due("target then", x.count(5), more >= 0 ? -1 : 0);
                    check.due("purse then", x.person(0, 3), more >= 0 ? more : purse);
                    check.due("acts", x.count(14), more >= 0 ? 1 : 0);
                }
            }
        }
    }

    private void buyingAsInANight() {
        check.says("the TARGET buys itself off (ALE for each who would come now; as in (d))");
        PanNights x = of(person(0, 5, 99, 50) + ";" + person(0, 0, 0, 0) + ";" + person(1, 1, 0, 0) + ";" + person(8, 9, 0, 0) + ";wrong 0 3;target 0;watch 100;rain 100", null);
        x.nights(1);
        x.seed(7);
        check.due("two would come, pride is not asked", x.buy(), 46);
        facts(x, 0, 0, 5, 99, 46, 0);
        facts(x, 1, 0, 0, 0, 0);
        facts(x, 2, 1, 0, 0, 0);
        facts(x, 3, 8, 9, 0, 0);
        check.due("no target", x.count(5), -1);
        check.due("borne", x.count(6), 0);
        check.due("no night", x.count(3), 1);
        check.due("no row", x.count(13), 1);
        check.due("no draw", x.seed(1), 7);
    }

    // ---- promises 12 to 15

    private void feuding() {
        check.says("A FEUD is told (other NONE: none): with whom it was; NONE. IllegalArgumentException: both are one.");
        PanNights x = of(times(person(8, 1, 5, 10), 8), null);
        check.due("feud(0, 7)", x.feud(0, 7), -1);
        check.due("feud(0, 1)", x.feud(0, 1), 7);
        check.due("feud(0, NONE)", x.feud(0, PanNights.NONE), 1);
        check.due("feud(0, NONE) again", x.feud(0, PanNights.NONE), -1);
        check.due("feud(7, 0)", x.feud(7, 0), -1);
        for (int p = 0; p < 8; p++) {
            int one = p;
            check.due("feud(" + p + ", " + p + ")", () -> x.feud(one, one), ARG);
        }
        check.says("IndexOutOfBoundsException: there is no such PERSON.");
        bounds("feud(.., NONE)", n -> x.feud(n, -1), 0, 7, OUT);
        for (int n : new int[] {-2, 8, Integer.MIN_VALUE, Integer.MAX_VALUE}) {
            check.due("feud(0, " + n + ")", () -> x.feud(0, n), OUT);
            check.due("feud(" + n + ", 0)", () -> x.feud(n, 0), OUT);
            check.due("feud(" + n + " twice)", () -> x.feud(n, n), OUT);
        }
        check.due("feud(-1, -1)", () -> x.feud(-1, -1), OUT);
        check.due("feud of 0", x.person(0, 5), -1);
    }

    private void teaching() {
        check.says("THRESHOLD is told: what it was. IllegalArgumentException: it is none.");
        PanNights x = three();
        bounds("teach(1, ..)", n -> x.teach(1, n), 0, 8, ARG);
        check.due("the latest that is allowed", x.person(1, 0), 8);
        check.due("teach(1, 0)", x.teach(1, 0), 8);
        check.due("teach(1, 8)", x.teach(1, 8), 0);
        check.says("IndexOutOfBoundsException: there is no such PERSON.");
        bounds("teach(.., 8)", n -> x.teach(n, 8), 0, 2, OUT);
        check.says("Of several exceptions the one told first is thrown");
        check.due("teach(3, 9)", () -> x.teach(3, 9), OUT);
        check.due("teach(-1, -1)", () -> x.teach(-1, -1), OUT);
    }

    private void wronging() {
        check.says("WRONG is told: what it was. IllegalArgumentException: it is none.");
        PanNights x = three();
        bounds("wrong(1, ..)", n -> x.wrong(1, n), 0, 9, ARG);
        check.due("the latest that is allowed", x.person(1, 4), 9);
        check.due("wrong(1, 0)", x.wrong(1, 0), 9);
        check.due("wrong(1, 9)", x.wrong(1, 9), 0);
        check.says("IndexOutOfBoundsException: there is no such PERSON.");
        bounds("wrong(.., 9)", n -> x.wrong(n, 9), 0, 2, OUT);
        check.says("Of several exceptions the one told first is thrown");
        check.due("wrong(3, 10)", () -> x.wrong(3, 10), OUT);
        check.due("wrong(-1, -1)", () -> x.wrong(-1, -1), OUT);
    }

    private void giving() {
        check.says("IllegalArgumentException: n is none (1 to 999).");
        PanNights x = three();
        bounds("give(1, ..)", n -> x.give(1, n), 1, 999, ARG);
        check.due("10, 1 and 999", x.person(1, 3), 1010);
        check.says("IndexOutOfBoundsException: there is no such PERSON.");
        bounds("give(.., 1)", n -> x.give(n, 1), 0, 2, OUT);
        check.says("Of several exceptions the one told first is thrown");
        check.due("give(3, 0)", () -> x.give(3, 0), OUT);
        check.due("give(-1, 1000)", () -> x.give(-1, 1000), OUT);
    }

    private void fullPurse() {
        check.says("One gets so much: PURSE then (9999 at most).");
        PanNights x = three();
        for (int i = 1; i <= 9; i++) {
            check.due("give", x.give(0, 999), 10 + 999 * i);
        }
        check.due("9998", x.give(0, 997), 9998);
        check.due("9999", x.give(0, 1), 9999);
        check.due("9999 at most", x.give(0, 1), 9999);
        check.due("9999 at most by 999", x.give(0, 999), 9999);
        x.undo();
        x.undo();
        x.undo();
        check.due("9998 as ahead of it", x.person(0, 3), 9998);
        check.due("by 2", x.give(0, 2), 9999);
        check.due("purses", x.count(12), 10019);
    }

    // ---- promise 49

    private void twelveActs() {
        check.says("UNDONE: the latest ACT not undone yet (12 are remembered");
        PanNights x = three();
        for (int i = 1; i <= 12; i++) {
            x.give(0, 1);
            check.due("acts", x.count(14), i);
        }
        for (int i = 11; i >= 0; i--) {
            check.due("undo", x.undo(), true);
            check.due("purse", x.person(0, 3), 10 + i);
            check.due("acts", x.count(14), i);
        }
        check.due("no more", x.undo(), false);
        check.due("purse", x.person(0, 3), 10);
    }

    private void thirteenthAct() {
        check.says("UNDONE: the latest ACT not undone yet (12 are remembered");
        for (int acts : new int[] {13, 14, 24, 25, 30}) {
            PanNights x = three();
            for (int i = 0; i < acts; i++) {
                x.give(0, 1);
            }
            check.due("acts of " + acts, x.count(14), 12);
            for (int i = 1; i <= 12; i++) {
                check.due("undo " + i + " of " + acts, x.undo(), true);
                check.due("purse", x.person(0, 3), 10 + acts - i);
            }
            check.due("no 13th", x.undo(), false);
            check.due("purse", x.person(0, 3), 10 + acts - 12);
        }
        PanNights x = three();
        for (int i = 0; i < 12; i++) {
            x.give(0, 1);
        }
        x.undo();
        x.undo();
        x.give(0, 100);
        check.due("acts", x.count(14), 11);
        x.undo();
        check.due("the undone ones do not come back", x.person(0, 3), 20);
        x.undo();
        check.due("but those ahead of them", x.person(0, 3), 19);
    }

    private void eachKindOfAct() {
        check.says("ACTS: a TARGET is named (with WRONG above 0; BORNE 0); one is a BEGINNER, or not; the TARGET buys itself off"
            + " (ALE for each who would come now; as in (d)); a FEUD is told; a THRESHOLD is told; WRONG is told; one gets so much (9999 at most); NIGHTS.");
        PanNights x = three();
        Check.Call[] acts = {() -> x.name(0), () -> x.begin(1, true), () -> x.begin(1, false), () -> x.feud(0, 1), () -> x.feud(0, -1), () -> x.teach(2, 0),
            () -> x.wrong(2, 9), () -> x.give(2, 5), () -> x.nights(2), () -> x.buy()};
        String[] states = new String[acts.length + 1];
        for (int i = 0; i < acts.length; i++) {
            states[i] = Whole.seen(x);
            check.due("act " + i, Check.answer(acts[i]).startsWith("throws."), false);
            check.due("acts", x.count(14), i + 1);
        }
        for (int i = acts.length - 1; i >= 0; i--) {
            check.due("undo " + i, x.undo(), true);
            check.due("all is as ahead of act " + i, Whole.seen(x), states[i]);
        }
        check.due("no more", x.undo(), false);
    }

    private void nightsOfOneCall() {
        check.says("NIGHTS of one call are one");
        PanNights x = three();
        x.name(0);
        x.nights(60);
        check.due("acts", x.count(14), 2);
        check.due("undo", x.undo(), true);
        check.due("night", x.count(3), 0);
        check.due("target", x.count(5), 0);
        check.due("borne", x.count(6), 0);
        check.due("rows", x.count(13), 0);
        x.nights(1);
        x.nights(1);
        check.due("of two calls two", x.count(14), 3);
        x.undo();
        check.due("night", x.count(3), 1);
    }

    private void actsThatChangeNothing() {
        check.says("whether that changed.");
        PanNights x = three();
        check.due("no change", x.begin(0, false), false);
        check.due("an act all the same", x.count(14), 1);
        x.teach(0, 8);
        x.feud(0, -1);
        x.wrong(2, 0);
        check.due("acts", x.count(14), 4);
        check.due("undo", x.undo(), true);
    }

    private void nothingToUndo() {
        check.says("UNDONE: whether there was one.");
        PanNights x = new PanNights();
        check.due("undo of a new one", x.undo(), false);
        check.due("acts", x.count(14), 0);
        PanNights y = three();
        check.due("undo of a text", y.undo(), false);
        check.due("the text stays", y.count(0), 3);
        y.give(0, 1);
        check.due("undo", y.undo(), true);
        check.due("undo again", y.undo(), false);
        check.due("undo again", y.undo(), false);
        check.due("purse", y.person(0, 3), 10);
        check.due("questions are no acts", y.comes(0) + y.trial(3, false) + y.seed(1) >= 0 && y.undo(), false);
    }

    private void afterATextNone() {
        check.says("A text, going back: none are remembered.");
        for (int kind = 0; kind < 4; kind++) {
            PanNights x = three();
            x.give(0, 1);
            x.give(0, 2);
            boolean law = kind % 2 == 0;
            read(x, kind < 2 ? "" : law ? "pan 1" : "ale 1", law);
            check.due("acts after text " + kind, x.count(14), 0);
            check.due("undo after text " + kind, x.undo(), false);
            check.due("purse", x.person(0, 3), 13);
            x.give(0, 3);
            check.due("acts", x.count(14), 1);
            check.due("undo", x.undo(), true);
            check.due("no more", x.undo(), false);
            check.due("purse", x.person(0, 3), 13);
        }
    }

    private void afterARefusedTextAll() {
        check.says("a call that throws changes nothing but the TAPE, where it is used up.");
        PanNights x = three();
        for (int n = 2; n <= 12; n++) {
            read(x, "", false);
        }
        x.give(0, 1);
        check.due("a wrong village", read(x, "ale 21", false), ARG);
        check.due("a wrong law", read(x, "pan 31", true), ARG);
        check.due("a 13th village", read(x, "ale 1", false), UNSUPPORTED);
        check.due("acts", x.count(14), 1);
        check.due("undo", x.undo(), true);
        check.due("purse", x.person(0, 3), 10);
    }

    private void afterGoingBackNone() {
        check.says("A text, going back: none are remembered.");
        PanNights x = three();
        x.give(0, 1);
        check.due("back() without an image", x.back(), false);
        check.due("acts", x.count(14), 1);
        x.image();
        check.due("acts after image()", x.count(14), 1);
        x.give(0, 2);
        x.back();
        check.due("acts after back()", x.count(14), 0);
        check.due("undo", x.undo(), false);
        check.due("purse", x.person(0, 3), 11);
    }

    private void notUndone() {
        check.says("all is as ahead of it (but for the TAPE, fault(), THE IMAGE)");
        PanNights x = three();
        x.give(0, 1);
        tape(x, "ale 21");
        Check.answer(() -> x.village());
        tape(x, "ale 7");
        x.image();
        check.due("undo", x.undo(), true);
        check.due("fault", x.fault(), 4);
        check.due("the tape", x.end(5), true);
        check.due("the tape has no more", x.end(6), false);
        check.due("the image", x.back(), true);
        check.due("purse of the image", x.person(0, 3), 11);
        check.due("the text", x.village(), 2);
        check.due("ale", x.count(10), 7);
    }

    private void seedIsUndone() {
        check.says("all is as ahead of it");
        PanNights x = three();
        x.seed(5);
        x.nights(1);
        check.due("undo", x.undo(), true);
        check.due("seed as ahead of the night", x.seed(6), 5);
        x.give(0, 1);
        x.seed(7);
        check.due("undo", x.undo(), true);
        check.due("seed as ahead of the act", x.seed(1), 6);
    }

    private void logIsUndone() {
        check.says("all is as ahead of it");
        PanNights x = of(times(person(8, 0, 0, 0), 3) + ";wrong 0 1;wrong 1 1;rain 100", null);
        x.name(0);
        x.nights(1);
        check.due("wet", x.count(4), 1);
        x.name(1);
        x.nights(1);
        x.undo();
        check.due("rows", x.count(13), 1);
        check.due("the latest row", x.log(0, 1), 0);
        x.nights(1);
        check.due("another row in its place", x.log(0, 1), 1);
        x.undo();
        x.undo();
        x.undo();
        check.due("rows", x.count(13), 0);
        check.due("not wet", x.count(4), 0);
        check.due("no row", x.log(0, 1), -1);
    }

    // ---- promises 50, 51

    private void noImage() {
        check.says("true; false, and nothing happens, if none was kept.");
        PanNights x = three();
        x.give(0, 1);
        tape(x, "ale 7");
        check.due("back", x.back(), false);
        check.due("purse", x.person(0, 3), 11);
        check.due("acts", x.count(14), 1);
        check.due("the tape", x.end(5), true);
        check.due("back again", x.back(), false);
    }

    private void theLatestImage() {
        check.says("THE IMAGE (one) of all may be kept, and gone back to");
        PanNights x = three();
        x.image();
        x.give(0, 1);
        x.image();
        x.give(0, 1);
        for (int i = 0; i < 3; i++) {
            check.due("back", x.back(), true);
            check.due("purse of the latest image", x.person(0, 3), 11);
            x.give(0, 5);
        }
        check.due("no other image behind it", x.back(), true);
        check.due("purse", x.person(0, 3), 11);
    }

    private void imageOfAll() {
        check.says("THE IMAGE (one) of all may be kept, and gone back to");
        PanNights x = of(times(person(0, 1, 50, 10), 3) + ";wrong 0 1;wrong 1 9;feud 0 with 1;rain 100;watch 50", "pan 3;need 1 if wet");
        x.name(0);
        x.nights(2);
        x.seed(77);
        String was = Whole.seen(x);
        x.image();
        check.due("an image changes nothing", Whole.seen(x), was);
        read(x, "rain 0;watch 1;fine 2;ale 3;night 4;target 2;wrong 2 9;feud 1 with 2;" + person(1, 1, 1, 1) + " strange begins", false);
        read(x, "pan 1;pan 2;pan 3", true);
        x.seed(8);
        x.begin(1, true);
        x.nights(60);
        x.wrong(1, 1);
        x.name(1);
        x.nights(2);
        check.due("another one", Whole.seen(x).equals(was), false);
        check.due("back", x.back(), true);
        // the acts are forgotten, all else is as in the image
        check.due("acts", x.count(14), 0);
        check.due("all as in the image", Whole.seen(x).replace(Whole.acts(0), Whole.acts(2)), was);
    }

    private void imageLeaves() {
        check.says("(but for the TAPE, fault() and THE IMAGE itself)");
        PanNights x = three();
        x.image();
        read(x, "ale 21", false);
        tape(x, "ale 7");
        check.due("back", x.back(), true);
        check.due("fault", x.fault(), 4);
        check.due("the tape", x.end(5), true);
        check.due("the tape has no more", x.end(6), false);
        check.due("the image", x.back(), true);
        check.due("the text", x.village(), 2);
        check.due("ale", x.count(10), 7);
    }

    private void emptyImage() {
        check.says("THE IMAGE (one) of all may be kept, and gone back to");
        PanNights x = new PanNights();
        x.image();
        read(x, times(person(0, 0, 0, 9), 8) + ";target 0;rain 100", false);
        read(x, "pan 1", true);
        x.nights(3);
        check.due("back to nobody", x.back(), true);
        counts(x, 0, 0, -1, 0, 0, -1, 0, 0, 0, 3, 2, 0, 0, 0, 0);
        check.due("seed", x.seed(1), 1);
        check.due("person(0, 0)", () -> x.person(0, 0), OUT);
        check.due("a text then", read(x, person(7, 0, 0, 0), false), 1);
        facts(x, 0, 7, 0, 0, 0, 0, -1, 0, 0);
    }

    // ---- promise 52

    private void countBounds() {
        check.says("NONE for another what.");
        PanNights x = of(times(person(0, 0, 0, 9), 2) + ";target 0;rain 100;watch 100", "need 30");
        x.nights(1);
        for (int what = 0; what <= 14; what++) {
            check.due("count(" + what + ")", x.count(what) >= 0, true);
        }
        for (int what : new int[] {-1, 15, 16, 99, Integer.MIN_VALUE, Integer.MAX_VALUE}) {
            check.due("count(" + what + ")", x.count(what), -1);
        }
    }

    private void leastAndGreatestCounts() {
        check.says("0 PEOPLE, 1 texts of THE VILLAGE, 2 LINES of THE LAW (NONE without one), 3 NIGHT, 4 1 if WET, 5 the TARGET (NONE), 6 BORNE, 7 RAIN,"
            + " 8 WATCH, 9 FINE, 10 ALE, 11 BEGINNERS, as bits, 12 PURSES of all together, 13 rows of THE LOG, 14 acts that can be UNDONE.");
        counts(new PanNights(), 0, 0, -1, 0, 0, -1, 0, 0, 0, 3, 2, 0, 0, 0, 0);
        PanNights least = of("fine 0;ale 0", "");
        counts(least, 0, 1, 0, 0, 0, -1, 0, 0, 0, 0, 0, 0, 0, 0, 0);
        PanNights most = new PanNights();
        read(most, times("person needs 8 thirst 0 pride 9 purse 999 begins", 8), false);
        for (int n = 2; n <= 11; n++) {
            read(most, "", false);
        }
        read(most, "rain 100;watch 100;fine 30;ale 20;night 999;wrong 7 1;target 7", false);
        read(most, times("pan 0", 12), true);
        most.nights(2);
        for (int i = 0; i < 11; i++) {
            most.give(0, 1);
        }
        counts(most, 8, 12, 12, 1001, 1, 7, 2, 100, 100, 30, 20, 255, 8 * 999 - 14 * 30 + 11, 2, 12);
        PanNights rich = of(times(person(8, 0, 0, 999), 8), null);
        for (int p = 0; p < 8; p++) {
            for (int i = 0; i < 10; i++) {
                rich.give(p, 999);
            }
        }
        check.due("purses", rich.count(12), 8 * 9999);
        check.due("trial", rich.trial(60, false), 8 * 9999);
    }
}
