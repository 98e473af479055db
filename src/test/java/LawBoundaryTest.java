/** The edges of promises 5 and 8 and of THE LAW: a sentence of the document, then what is due by it. */
public final class LawBoundaryTest extends Cases {
    // 0 may come to 1, the target, who is strange; 0 has a feud with 1, 1 with 2; 2 is nothing of all that
    private static final String THREE = person(3, 7, 1, 11) + ";" + person(2, 1, 1, 22) + " strange;" + person(1, 2, 1, 33)
        + ";wrong 0 5;wrong 1 6;feud 0 with 1;feud 1 with 2;target 1;night 123";

    private LawBoundaryTest() {
        super("LawBoundaryTest");
    }

    public static void main(String[] args) {
        LawBoundaryTest t = new LawBoundaryTest();
        t.noLaw();
        t.inPlaceOfTheOneBefore();
        t.twelveLines();
        t.thirteenthLine();
        t.amounts();
        t.numbersInSums();
        t.sixDeep();
        t.seventhDeep();
        t.besideOneAnother();
        t.wrongThings();
        t.moreMustCome();
        t.nothingStays();
        t.needsNoneAtLeast();
        t.greatestNeedsAndPans();
        t.onePanAtLeast();
        t.lessAndMore();
        t.longestLaw();
        t.sums();
        t.words();
        t.ofThatOtherOne();
        t.borne();
        t.farNumbers();
        t.against();
        t.check.close();
    }

    private static int pans(PanNights x) {
        return x.against(0, 1, true);
    }

    /** Whether a condition holds of 0 who may come to 1. */
    private void holds(String condition, boolean want) {
        PanNights x = of(THREE, "pan 4 if " + condition);
        check.due(condition, pans(x), want ? 5 : 1);
    }

    // ---- promise 5

    private void noLaw() {
        check.says("2 LINES of THE LAW (NONE without one)");
        PanNights x = of(THREE, null);
        check.due("without one", x.count(2), -1);
        fault(x, true, "pan", 3);
        check.due("a wrong one is none", x.count(2), -1);
        check.due("needs", x.against(0, 1, false), 3);
        check.due("pans", pans(x), 1);
        check.due("an empty one", read(x, "", true), 0);
        check.due("is one", x.count(2), 0);
        check.due("needs", x.against(0, 1, false), 3);
        check.due("pans", pans(x), 1);
    }

    private void inPlaceOfTheOneBefore() {
        check.says("THE LAW (a text, in place of the one before)");
        PanNights x = of(THREE, times("pan 1", 12));
        check.due("twelve", pans(x), 13);
        check.due("one", read(x, "pan 5", true), 1);
        check.due("the one alone", pans(x), 6);
        check.due("lines", x.count(2), 1);
        check.due("none", read(x, "  ", true), 0);
        check.due("none at all", pans(x), 1);
        check.due("lines", x.count(2), 0);
        check.due("three", read(x, "pan 1 if wet;pan 2;need 1", true), 3);
        check.due("three", pans(x), 3);
        for (int i = 0; i < 20; i++) {
            check.due("as often as one likes", read(x, "pan " + i, true), 1);
            check.due("the latest", pans(x), i + 1);
        }
    }

    private void twelveLines() {
        check.says("LINE { ; LINE }, at most 12");
        PanNights x = of(THREE, null);
        check.due("eleven", read(x, times("pan 1", 11), true), 11);
        check.due("twelve", read(x, times("pan 1", 11) + ";pan 20", true), 12);
        check.due("the 12th counts", pans(x), 32);
        check.due("lines", x.count(2), 12);
        check.due("twelve conditions", read(x, times("pan 1 if feud", 11) + ";pan 20 if not wet", true), 12);
        check.due("the 12th counts", pans(x), 32);
        check.due("twelve conditions", read(x, times("pan 1 if wet", 11) + ";pan 20 if not wet", true), 12);
        check.due("the 12th alone", pans(x), 21);
    }

    private void thirteenthLine() {
        check.says("of a LINE, a PERSON too many, the first word");
        PanNights x = of(THREE, null);
        String lines = times("pan 1", 12);
        fault(x, true, lines + ";pan 1", 72);
        fault(x, true, lines + "  ;  pan 1", 76);
        fault(x, true, lines + ";pan 31", 72);
        fault(x, true, lines + ";xyz", 72);
        fault(x, true, lines + ";;", 72);
        fault(x, true, lines + ";", 72);
        fault(x, true, lines + ";  ", 74);
        fault(x, true, lines + ";pan 1;pan 1", 72);
        fault(x, true, times("pan 1", 11) + ";pan 31;pan 1", 70);
        check.due("no law", x.count(2), -1);
        fault(x, true, lines, -1);
    }

    private void amounts() {
        check.says("All numbers are of 1 to 3 digits (N 0 to 30).");
        for (String kind : new String[] {"need ", "spare ", "pan "}) {
            PanNights x = of(THREE, null);
            int place = kind.length();
            fault(x, true, kind + "0", -1);
            check.due(kind + "0: needs", x.against(0, 1, false), 3);
            check.due(kind + "0: pans", pans(x), 1);
            fault(x, true, kind + "30", -1);
            check.due(kind + "30: needs", x.against(0, 1, false), kind.equals("need ") ? 33 : kind.equals("pan ") ? 3 : 0);
            check.due(kind + "30: pans", pans(x), kind.equals("pan ") ? 31 : 1);
            for (String wrong : new String[] {"31", "999", "1000", "0030", "-1", "x", ";", "if", ""}) {
                fault(x, true, kind + wrong, place);
            }
            check.due("lines", x.count(2), 1);
        }
    }

    private void numbersInSums() {
        check.says("PART: NUMBER | who | thirst | threshold | wrong | purse | borne | night. All numbers are of 1 to 3 digits");
        holds("999 > 998", true);
        holds("999 > 999", false);
        holds("0 < 1", true);
        holds("000 < 001", true);
        PanNights x = of(THREE, null);
        fault(x, true, "pan 1 if 1000 > 0", 9);
        fault(x, true, "pan 1 if 0 < 1000", 13);
        fault(x, true, "pan 1 if 0001 > 0", 9);
        fault(x, true, "pan 1 if 1 + 1000 > 0", 13);
        fault(x, true, "pan 1 if -1 < 0", 9);
    }

    // ---- how deep

    /** Six of ( and not, by the bits; the shape has a gap for what stands within. */
    private static String[] nested(int bits, int deep) {
        StringBuilder ahead = new StringBuilder();
        StringBuilder behind = new StringBuilder();
        for (int i = 0; i < deep; i++) {
            boolean opens = (bits >> i & 1) == 1;
            ahead.append(opens ? "(" : "not ");
            behind.append(opens ? ")" : "");
        }
        return new String[] {ahead.toString(), behind.toString()};
    }

    private void sixDeep() {
        check.says("( and not within one another at most 6 deep.");
        for (int bits = 0; bits < 64; bits++) {
            String[] shape = nested(bits, 6);
            PanNights x = of(THREE, null);
            fault(x, true, "pan 4 if " + shape[0] + "feud" + shape[1], -1);
            check.due("feud in " + shape[0], pans(x), Integer.bitCount(bits) % 2 == 0 ? 5 : 1);
            fault(x, true, "pan 4 if " + shape[0] + "1 > 1" + shape[1], -1);
            check.due("1 > 1 in " + shape[0], pans(x), Integer.bitCount(bits) % 2 == 0 ? 1 : 5);
        }
    }

    private void seventhDeep() {
        check.says("the ( or not that is a 7th one deep");
        PanNights x = of(THREE, null);
        for (int bits = 0; bits < 64; bits += 3) {
            String[] shape = nested(bits, 6);
            int place = 9 + shape[0].length();
            fault(x, true, "pan 4 if " + shape[0] + "(feud)" + shape[1], place);
            fault(x, true, "pan 4 if " + shape[0] + "not feud" + shape[1], place);
        }
        check.due("no law", x.count(2), -1);
        PanNights y = of(THREE, null);
        // as the second of two, and behind a line that is right
        fault(y, true, "pan 4 if ((((((feud and (feud)))))))", 24);
        fault(y, true, "pan 4 if ((((((feud or not feud))))))", 23);
        fault(y, true, "pan 4 if feud and ((((((not feud))))))", 24);
        fault(y, true, "pan 1;pan 4 if feud or not not not not not not not feud", 47);
        fault(y, true, "pan 4 if (((((((", 15);
        fault(y, true, "pan 4 if not not not not not not not", 33);
        fault(y, true, "pan 4 if ((((((", 15);
    }

    private void besideOneAnother() {
        check.says("( and not within one another at most 6 deep.");
        holds("(feud) and (feud) and (feud) and (feud) and (feud) and (feud) and (feud) and (feud)", true);
        holds("not wet and not wet and not wet and not wet and not wet and not wet and not wet and not wet", true);
        holds("((((((feud)))))) and ((((((wet or feud))))))", true);
        holds("((((((feud)))))) and ((((((wet))))))", false);
        holds("not not not not not not feud or not not not not not not wet", true);
        holds("(wet or (wet or (wet or (wet or (wet or (wet or feud and strange and 1 + 1 + 1 > 2))))))", true);
        holds("(feud and (feud and (feud and (feud and (feud and (feud and wet or 1 < 1 + 0))))))", false);
        holds("wet or feud and (wet or feud and (wet or feud and (wet or feud and (wet or feud and (wet or feud and (wet or feud and 1 + 2 + 3 < 3 + 4))))))", true);
    }

    // ---- the first wrong byte

    private void wrongThings() {
        check.says("The first wrong byte: the begin of the first thing that cannot stand there");
        PanNights x = of(THREE, null);
        String[] texts = {"x", "1", "(", "if", "wet", "needs 1", "person", "pan 1 1", "pan 1 pan 1", "pan 1 wet", "pan 1 if 1", "pan 1 if )", "pan 1 if ;",
            "pan 1 if if", "pan 1 if <", "pan 1 if +", "pan 1 if and wet", "pan 1 if or wet", "pan 1 if pride > 1", "pan 1 if wet wet", "pan 1 if wet 1",
            "pan 1 if wet not", "pan 1 if wet (", "pan 1 if wet <", "pan 1 if wet +", "pan 1 if wet)", "pan 1 if (wet;", "pan 1 if (wet))", "pan 1 if (wet (",
            "pan 1 if not and", "pan 1 if not )", "pan 1 if 1 = 1", "pan 1 if 1 and 2", "pan 1 if 1 )", "pan 1 if 1 ;", "pan 1 if 1 < wet",
            "pan 1 if 1 < (1)", "pan 1 if 1 < not", "pan 1 if 1 < 2 < 3", "pan 1 if 1 < 2 3", "pan 1 if 1 + + 1", "pan 1 if 1 + wet", "pan 1 if 1 << 2",
            "pan 1 if (1) < 2", "pan 1 if feud < 1", "pan 1 if 1 < 2 and or", "pan 1 if wet or )"};
        int[] want = {0, 0, 0, 0, 0, 0, 0, 6, 6, 6, 10, 9, 9,
            9, 9, 9, 9, 9, 9, 13, 13,
            13, 13, 13, 13, 12, 13, 14, 14,
            13, 13, 11, 11, 11, 11, 13,
            13, 13, 15, 15, 13, 13, 12,
            11, 14, 19, 16};
        check.due("as many", texts.length, want.length);
        for (int i = 0; i < texts.length; i++) {
            fault(x, true, texts[i], want[i]);
        }
        check.due("no law", x.count(2), -1);
    }

    private void moreMustCome() {
        check.says("or the text's length, if more must come.");
        PanNights x = of(THREE, null);
        for (String text : new String[] {"need", "spare", "pan", "pan 1 if", "pan 1 if not", "pan 1 if (", "pan 1 if (wet", "pan 1 if (wet and", "pan 1 if wet and",
            "pan 1 if wet or", "pan 1 if 1", "pan 1 if who", "pan 1 if 1 +", "pan 1 if 1 <", "pan 1 if 1 >", "pan 1 if 1 < 1 +", "pan 1;", "pan 1 if wet;"}) {
            fault(x, true, text, text.length());
            fault(x, true, text + "   ", text.length() + 3);
        }
        check.due("no law", x.count(2), -1);
    }

    private void nothingStays() {
        check.says("Of a wrong text nothing stays.");
        PanNights x = of(THREE, "pan 2;need 1 if feud");
        x.give(0, 1);
        for (String text : new String[] {"pan 30;pan 31", "pan 30;", "pan 30 if feud;need 1 if", "pan", times("pan 30", 13), "pan 9 if not not not not not not not wet"}) {
            check.due("wrong: " + text, read(x, text, true), ARG);
            check.due("pans", pans(x), 3);
            check.due("needs", x.against(0, 1, false), 4);
            check.due("needs of another one", x.against(2, 1, false), 1);
            check.due("lines", x.count(2), 2);
            check.due("acts", x.count(14), 1);
        }
    }

    // ---- what lines make

    private void needsNoneAtLeast() {
        check.says("NEEDS: THRESHOLD and the sum of N of all need LINES that hold, less that of all spare LINES (0 at least).");
        int[][] due = {{2, 1}, {3, 0}, {4, 0}, {30, 0}};
        for (int[] d : due) {
            check.due("spare " + d[0], of(THREE, "spare " + d[0]).against(0, 1, false), d[1]);
        }
        // the bound is of the whole, not of each line
        check.due("spare ahead of need", of(THREE, "spare 30;need 28").against(0, 1, false), 1);
        check.due("spare ahead of need", of(THREE, "spare 30;need 27").against(0, 1, false), 0);
        check.due("spare ahead of need", of(THREE, "spare 30;need 26").against(0, 1, false), 0);
        check.due("spare behind need", of(THREE, "need 28;spare 30").against(0, 1, false), 1);
        check.due("spare alone", of(THREE, times("spare 30", 12)).against(0, 1, false), 0);
        check.due("one that does not hold", of(THREE, "spare 30 if wet").against(0, 1, false), 3);
        PanNights x = of(THREE, "spare 30;need 28");
        x.teach(0, 0);
        check.due("threshold 0", x.against(0, 1, false), 0);
        x.teach(0, 8);
        check.due("threshold 8", x.against(0, 1, false), 6);
    }

    private void greatestNeedsAndPans() {
        check.says("NEEDS: THRESHOLD and the sum of N of all need LINES that hold");
        PanNights x = of(THREE, times("need 30", 12));
        x.teach(0, 8);
        check.due("needs", x.against(0, 1, false), 368);
        check.due("nobody comes to 1", x.comes(1), 0);
        x.begin(0, true);
        check.due("a beginner needs nothing", x.comes(1), 1);
        check.says("PANS: 1 and the sum of N of all pan LINES that hold.");
        PanNights y = of(times(person(0, 0, 99, 9), 8), times("pan 30", 12));
        check.due("pans", y.against(0, 1, true), 361);
        check.due("noise", y.loud(0), 7 * 361);
        check.due("share", y.share(1, 0), 14);
    }

    private void onePanAtLeast() {
        check.says("PANS: 1 and the sum of N of all pan LINES that hold.");
        check.due("no line", pans(of(THREE, "")), 1);
        check.due("pan 0", pans(of(THREE, times("pan 0", 12))), 1);
        check.due("pan 1", pans(of(THREE, "pan 1")), 2);
        check.due("need and spare", pans(of(THREE, "need 5;spare 7")), 1);
        check.due("one that does not hold", pans(of(THREE, "pan 30 if wet")), 1);
        check.due("each by itself", pans(of(THREE, "pan 3;pan 4 if feud;pan 5 if wet;pan 6 if strange")), 14);
    }

    private void lessAndMore() {
        check.says("SUM < SUM | SUM > SUM");
        holds("5 < 6", true);
        holds("5 < 5", false);
        holds("6 < 5", false);
        holds("6 > 5", true);
        holds("5 > 5", false);
        holds("5 > 6", false);
        holds("2 + 3 < 3 + 3", true);
        holds("2 + 3 < 3 + 2", false);
        holds("3 + 3 > 2 + 3", true);
        holds("3 + 2 > 2 + 3", false);
    }

    private void longestLaw() {
        check.says("SUM: PART { + PART }");
        PanNights x = of(THREE, null);
        String text = "pan 4 if " + "1+".repeat(193) + "1>193";
        check.due("400 bytes", text.length(), 400);
        fault(x, true, text, -1);
        check.due("194 > 193", pans(x), 5);
        fault(x, true, "pan 4 if " + "1+".repeat(193) + "1>194", -1);
        check.due("194 > 194", pans(x), 1);
        fault(x, true, "pan 4 if " + "1+".repeat(193) + "1194", 395);
        check.says("C: ALL { or ALL }; ALL: ATOM { and ATOM }");
        fault(x, true, "pan 4 if " + "wet or ".repeat(55) + "feud", -1);
        check.due("many or", pans(x), 5);
        fault(x, true, "pan 4 if " + "feud and ".repeat(42) + "wet", -1);
        check.due("many and", pans(x), 1);
        fault(x, true, "pan 4 if " + "feud and wet or ".repeat(24) + "feud", -1);
        check.due("many of both", pans(x), 5);
    }

    private void sums() {
        check.says("SUM: PART { + PART }");
        holds("999 + 999 + 999 > 999 + 999 + 998", true);
        holds("999 + 999 + 999 < 999 + 999 + 998", false);
        holds("who + thirst + threshold + wrong + purse + borne + night > 160", true);
        holds("who + thirst + threshold + wrong + purse + borne + night < 162", true);
        check.says("C: ALL { or ALL }; ALL: ATOM { and ATOM }");
        holds("feud or wet and wet", true);
        holds("(feud or wet) and wet", false);
        holds("wet and wet or feud", true);
        holds("wet and (wet or feud)", false);
        check.says("ATOM: not ATOM | ( C )");
        holds("not wet and feud", true);
        holds("not feud or feud", true);
        holds("not (feud or feud)", false);
        holds("not 1 < 2", false);
        holds("not 1 < 1", true);
    }

    private void words() {
        check.says("Of a PERSON who may come to another one");
        holds("who < 1", true);
        holds("who > 0", false);
        holds("thirst > 6", true);
        holds("thirst > 7", false);
        holds("threshold > 2", true);
        holds("threshold > 3", false);
        holds("night > 122", true);
        holds("night > 123", false);
        PanNights x = of(times(person(0, 0, 0, 0), 8), "pan 4 if who > 6;pan 2 if who < 1");
        for (int p = 0; p < 8; p++) {
            check.due("who is " + p, x.against(p, (p + 1) % 8, true), p == 7 ? 5 : p == 0 ? 3 : 1);
        }
    }

    private void ofThatOtherOne() {
        check.says("wrong, purse: WRONG, PURSE of that other one");
        holds("wrong > 5 and wrong < 7", true);
        holds("purse > 21 and purse < 23", true);
        check.says("strange: that other one is");
        holds("strange", true);
        PanNights x = of(THREE, "pan 4 if strange");
        check.due("1 against 0", x.against(1, 0, true), 1);
        check.due("2 against 1", x.against(2, 1, true), 5);
        check.says("feud: it has a FEUD with that other one (it, not that one)");
        PanNights y = of(THREE, "pan 4 if feud");
        check.due("0 against 1", y.against(0, 1, true), 5);
        check.due("1 against 0", y.against(1, 0, true), 1);
        check.due("1 against 2", y.against(1, 2, true), 5);
        check.due("2 against 1", y.against(2, 1, true), 1);
        check.due("0 against 2", y.against(0, 2, true), 1);
        y.feud(2, 0);
        check.due("2 against 0", y.against(2, 0, true), 5);
    }

    private void borne() {
        check.says("borne: BORNE (0, if that other one is not the TARGET).");
        PanNights x = of(times(person(8, 0, 99, 0), 3) + ";target 1", "pan 1 if borne > 0;pan 2 if borne > 1;pan 4 if borne > 2;pan 8 if 1 + borne < 1");
        int[] want = {1, 2, 4};
        for (int nights = 0; nights < 3; nights++) {
            check.due("against the target after " + nights, x.against(0, 1, true), want[nights]);
            check.due("against another one after " + nights, x.against(0, 2, true), 1);
            check.due("of the target after " + nights, x.against(1, 0, true), 1);
            x.nights(1);
        }
        check.due("without a target", x.against(0, 1, true), 1);
        x.wrong(1, 1);
        x.name(1);
        check.due("named anew", x.against(0, 1, true), 1);
    }

    private void farNumbers() {
        check.says("PURSE 0 to 9999");
        PanNights x = of(THREE, "pan 4 if purse > " + "999 + ".repeat(10) + "8;pan 2 if purse > " + "999 + ".repeat(10) + "9");
        for (int i = 0; i < 10; i++) {
            x.give(1, 999);
        }
        check.due("9999 is more than 9998 and not more than 9999", pans(x), 5);
        check.says("NIGHT 0 to 9999 (0 at first)");
        PanNights y = of(person(0, 0, 0, 0) + ";" + person(0, 0, 0, 0) + ";night 999",
            "pan 4 if night > " + "999 + ".repeat(10) + "8;pan 2 if night > " + "999 + ".repeat(10) + "9");
        for (int i = 0; i < 151; i++) {
            y.nights(60);
        }
        check.due("9999 is more than 9998 and not more than 9999", pans(y), 5);
    }

    // ---- promise 8

    private void against() {
        check.says("Of a PERSON against another one what it NEEDS (pans false), or PANS. IllegalArgumentException: both are one.");
        PanNights x = of(THREE, "need 2;pan 3");
        check.due("needs", x.against(0, 2, false), 5);
        check.due("pans", x.against(0, 2, true), 4);
        bounds("against(.., 1)", n -> x.against(n, 1, false), 0, 2, OUT);
        bounds("against(1, ..)", n -> x.against(1, n, true), 0, 2, OUT);
        for (int p = 0; p < 3; p++) {
            int one = p;
            check.due("against(" + p + ", " + p + ")", () -> x.against(one, one, false), ARG);
            check.due("against(" + p + ", " + p + ") pans", () -> x.against(one, one, true), ARG);
        }
        check.says("Of several exceptions the one told first is thrown");
        check.due("against(3, 3)", () -> x.against(3, 3, false), OUT);
        check.due("against(-1, -1)", () -> x.against(-1, -1, true), OUT);
    }
}
