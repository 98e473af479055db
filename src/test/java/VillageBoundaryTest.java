/** The edges of promises 1, 4 and 7 and of THE VILLAGE: a sentence of the document, then what is due by it. */
public final class VillageBoundaryTest extends Cases {
    private static final String ONE = person(1, 1, 1, 1);
    private static final String TWO = ONE + ";" + ONE;

    /** A number of the village, where it is told (@) and how it is seen. */
    private interface Seen {
        int in(PanNights x);
    }

    private VillageBoundaryTest() {
        super("VillageBoundaryTest");
    }

    public static void main(String[] args) {
        VillageBoundaryTest t = new VillageBoundaryTest();
        t.nobody();
        t.questionsOfNobody();
        t.atFirst();
        t.numbersOfPeople();
        t.numbersOfLines();
        t.nightAndPurseInTexts();
        t.eightPeople();
        t.ninthPerson();
        t.fourteenLines();
        t.fifteenthLine();
        t.twelveTexts();
        t.twelveTextsAndTheImage();
        t.peopleByThen();
        t.peopleOfOneText();
        t.withAnotherOne();
        t.targetTold();
        t.options();
        t.wrongLines();
        t.nothingStays();
        t.noSuchPerson();
        t.noSuchFact();
        t.check.close();
    }

    // ---- promise 1

    private void nobody() {
        check.says("`PanNights()`: A village of nobody.");
        PanNights x = new PanNights();
        counts(x, 0, 0, -1, 0, 0, -1, 0, 0, 0, 3, 2, 0, 0, 0, 0);
        check.due("person(0, 0)", () -> x.person(0, 0), OUT);
        check.due("person(0, 8)", () -> x.person(0, 8), OUT);
        check.due("person(-1, 0)", () -> x.person(-1, 0), OUT);
        check.due("against(0, 0)", () -> x.against(0, 0, true), OUT);
        check.due("name(0)", () -> x.name(0), OUT);
        check.due("begin(0)", () -> x.begin(0, true), OUT);
        check.due("buy()", () -> x.buy(), STATE);
        check.due("feud(0, -1)", () -> x.feud(0, -1), OUT);
        check.due("teach(0, 0)", () -> x.teach(0, 0), OUT);
        check.due("wrong(0, 0)", () -> x.wrong(0, 0), OUT);
        check.due("give(0, 1)", () -> x.give(0, 1), OUT);
        check.due("heard(0)", () -> x.heard(0, false), OUT);
        check.due("ask(0)", () -> x.ask(0), OUT);
        check.due("no act", x.count(14), 0);
        check.due("nights(60)", x.nights(60), 0);
        check.due("no row", x.count(13), 0);
        check.due("one act", x.count(14), 1);
    }

    private void questionsOfNobody() {
        check.says("`PanNights()`: A village of nobody.");
        PanNights x = new PanNights();
        Check.Call[] ofOne = {() -> x.comes(0), () -> x.rounds(0), () -> x.when(0, 1), () -> x.loud(0), () -> x.fewest(0, 0), () -> x.keep(0),
            () -> x.tips(0), () -> x.price(0), () -> x.can(0), () -> x.rests(0), () -> x.feuded(0), () -> x.ring(0), () -> x.watched(0),
            () -> x.brave(0), () -> x.spent(0, 0), () -> x.share(0, 1), () -> x.led(0, false)};
        for (int i = 0; i < ofOne.length; i++) {
            check.due("question " + i + " of one", ofOne[i], OUT);
        }
        Check.Call[] ofAll = {() -> x.dearest(), () -> x.brings(20), () -> x.best(), () -> x.feuds(), () -> x.hated(), () -> x.ripest(),
            () -> x.alike(), () -> x.ends(), () -> x.calm(60), () -> x.trial(60, false), () -> x.trial(60, true), () -> x.span(60, false),
            () -> x.span(60, true), () -> x.log(0, 0), () -> x.undo(), () -> x.back()};
        Object[] want = {-1, 0, 0, 0, -1, -1, 0, -1, 0, 0, -1, 0, 0, -1, false, false};
        for (int i = 0; i < ofAll.length; i++) {
            check.due("question " + i + " of all", ofAll[i], want[i]);
        }
    }

    private void atFirst() {
        PanNights x = of(person(8, 9, 99, 999), null);
        check.says("WRONG 0 to 9 (0 at first)");
        check.due("WRONG", x.person(0, 4), 0);
        check.says("FEUD: another one, or none (at first)");
        check.due("FEUD", x.person(0, 5), -1);
        check.says("STRANGE or not (not at first)");
        check.due("STRANGE", x.person(0, 6), 0);
        check.says("a BEGINNER or not (not at first)");
        check.due("BEGINNER", x.person(0, 7), 0);
        check.due("BEGINNERS", x.count(11), 0);
        check.says("TARGET: a PERSON, or none (at first)");
        check.due("TARGET", x.count(5), -1);
        check.says("BORNE: how many nights it had so far (0 at first)");
        check.due("BORNE", x.count(6), 0);
        check.says("NIGHT 0 to 9999 (0 at first)");
        check.due("NIGHT", x.count(3), 0);
        check.says("WET or not (not at first)");
        check.due("WET", x.count(4), 0);
        check.says("RAIN 0 to 100, WATCH 0 to 100 (0 at first)");
        check.due("RAIN", x.count(7), 0);
        check.due("WATCH", x.count(8), 0);
        check.says("FINE 0 to 30 (3 at first)");
        check.due("FINE", x.count(9), 3);
        check.says("ALE 0 to 20 (2 at first)");
        check.due("ALE", x.count(10), 2);
        check.says("bits 16 to 30 (SEED 1 at first)");
        check.due("SEED", x.seed(0), 1);
    }

    // ---- the least and the greatest of each number

    /** The number at @ from 0 to most, in a village of two. */
    private void number(String text, int most, Seen seen) {
        int place = text.indexOf('@');
        for (int n : new int[] {0, most}) {
            PanNights x = of(TWO, null);
            fault(x, false, text.replace("@", "" + n), -1);
            check.due(text + " with " + n, seen.in(x), n);
        }
        PanNights x = of(TWO, null);
        int was = x.count(1);
        fault(x, false, text.replace("@", "" + (most + 1)), place);
        fault(x, false, text.replace("@", "999"), most == 999 ? -1 : place);
        fault(x, false, text.replace("@", "-1"), place);
        fault(x, false, text.replace("@", "0000"), place);
        fault(x, false, text.replace("@", "1000"), place);
        fault(x, false, text.replace("@", "x"), place);
        fault(x, false, text.replace("@", "person"), place);
        fault(x, false, text.replace("@", ";"), place);
        fault(x, false, text.substring(0, place), place);
        check.due("texts", x.count(1), most == 999 ? was + 1 : was);
    }

    private void numbersOfPeople() {
        check.says("THRESHOLD 0 to 8");
        number("person needs @ thirst 2 pride 3 purse 4", 8, x -> x.person(2, 0));
        check.says("THIRST 0 to 9");
        number("person needs 1 thirst @ pride 3 purse 4", 9, x -> x.person(2, 1));
        check.says("PRIDE 0 to 99");
        number("person needs 1 thirst 2 pride @ purse 4", 99, x -> x.person(2, 2));
        check.says("wrong: 0 to 9");
        number("wrong 1 @", 9, x -> x.person(1, 4));
        number("ale 1;wrong 0 5; wrong 0 @;fine 1", 9, x -> x.person(0, 4));
    }

    private void numbersOfLines() {
        check.says("RAIN 0 to 100, WATCH 0 to 100 (0 at first)");
        number("rain @", 100, x -> x.count(7));
        number("watch @", 100, x -> x.count(8));
        check.says("FINE 0 to 30 (3 at first)");
        number("fine @", 30, x -> x.count(9));
        check.says("ALE 0 to 20 (2 at first)");
        number("ale @", 20, x -> x.count(10));
    }

    private void nightAndPurseInTexts() {
        check.says("PURSE, night: 0 to 999");
        number("person needs 1 thirst 2 pride 3 purse @", 999, x -> x.person(2, 3));
        number("person needs 1 thirst 2 pride 3 purse @ strange begins", 999, x -> x.person(2, 3));
        number("night @", 999, x -> x.count(3));
    }

    // ---- how many people, lines, texts

    private void eightPeople() {
        check.says("PEOPLE (at most 8, numbered from 0 on)");
        PanNights x = new PanNights();
        StringBuilder s = new StringBuilder();
        for (int p = 0; p < 8; p++) {
            s.append(p == 0 ? "" : ";").append(person(p, 8 - p, 10 + p, 20 + p));
        }
        fault(x, false, s.toString(), -1);
        check.due("eight", x.count(0), 8);
        for (int p = 0; p < 8; p++) {
            facts(x, p, p, 8 - p, 10 + p, 20 + p, 0, -1, 0, 0);
        }
        check.due("person(8, 0)", () -> x.person(8, 0), OUT);
        PanNights oneByOne = new PanNights();
        for (int p = 0; p < 8; p++) {
            fault(oneByOne, false, person(p, 0, 0, 0), -1);
            check.due("the latest", oneByOne.person(p, 0), p);
            int next = p + 1;
            check.due("none yet", () -> oneByOne.person(next, 0), OUT);
        }
        check.due("eight", oneByOne.count(0), 8);
    }

    private void ninthPerson() {
        check.says("of a LINE, a PERSON too many, the first word");
        PanNights x = new PanNights();
        fault(x, false, times(ONE, 9), 8 * (ONE.length() + 1));
        check.due("nobody stays", x.count(0), 0);
        fault(x, false, times(ONE, 8) + ";  person needs 9", 8 * (ONE.length() + 1) + 2);
        fault(x, false, times(ONE, 7), -1);
        fault(x, false, TWO, ONE.length() + 1);
        check.due("seven", x.count(0), 7);
        fault(x, false, ONE, -1);
        fault(x, false, ONE, 0);
        fault(x, false, "person", 0);
        fault(x, false, "ale 3; person needs 1", 7);
        fault(x, false, "persons", 0);
        fault(x, false, "wrong 7 1;feud 7 with 0;target 7", -1);
        check.due("eight", x.count(0), 8);
    }

    private void fourteenLines() {
        check.says("LINE { ; LINE }, at most 14");
        PanNights x = new PanNights();
        fault(x, false, times("ale 1", 13) + ";ale 5", -1);
        check.due("the 14th counts", x.count(10), 5);
        fault(x, false, times(ONE, 8) + ";" + times("fine 1", 5) + ";fine 6", -1);
        check.due("eight people", x.count(0), 8);
        check.due("the 14th counts", x.count(9), 6);
        fault(x, false, "wrong 0 1;wrong 1 2;wrong 2 3;feud 0 with 1;feud 1 with 2;feud 2 with 0;target 0;target 1;rain 1;watch 2;fine 3;ale 4;night 5;night 6", -1);
        check.due("night", x.count(3), 6);
        fault(x, false, "ale 9", -1);
        check.due("one line", x.count(10), 9);
    }

    private void fifteenthLine() {
        check.says("of a LINE, a PERSON too many, the first word");
        PanNights x = new PanNights();
        String lines = times("ale 1", 14);
        fault(x, false, lines + ";ale 2", 84);
        fault(x, false, lines + " ;   ale 2", 88);
        fault(x, false, lines + ";ale 2;ale 3;ale 4", 84);
        fault(x, false, lines + ";ale 21", 84);
        fault(x, false, lines + ";" + ONE, 84);
        fault(x, false, lines + ";xyz", 84);
        fault(x, false, lines + ";;", 84);
        fault(x, false, lines + ";", 84);
        fault(x, false, lines + "; ", 85);
        fault(x, false, lines + " ale 2", 84);
        fault(x, false, "ale 21;" + lines, 4);
        fault(x, false, times("ale 1", 13) + ";ale 21;ale 1", 82);
        check.due("no ale stays", x.count(10), 2);
        fault(x, false, lines, -1);
        check.due("but of 14", x.count(10), 1);
    }

    private void twelveTexts() {
        check.says("UnsupportedOperationException: there are 12.");
        PanNights x = new PanNights();
        for (int n = 1; n <= 12; n++) {
            check.due("a wrong text counts for none", read(x, "ale 21", false), ARG);
            check.due("a law counts for none", read(x, "pan 1", true), 1);
            check.due("text " + n, read(x, n % 2 == 0 ? "" : "ale " + n, false), n);
            check.due("texts", x.count(1), n);
        }
        check.due("a 13th", read(x, "ale 20", false), UNSUPPORTED);
        check.due("an empty 13th", read(x, "", false), UNSUPPORTED);
        check.due("a 13th with people", read(x, ONE, false), UNSUPPORTED);
        check.says("Of several exceptions the one told first is thrown");
        check.due("a wrong 13th", read(x, "ale 21", false), ARG);
        check.due("its fault", x.fault(), 4);
        check.due("a law all the same", read(x, "pan 2;pan 3", true), 2);
        check.due("texts", x.count(1), 12);
        check.due("ale", x.count(10), 11);
        check.due("people", x.count(0), 0);
    }

    private void twelveTextsAndTheImage() {
        check.says("THE VILLAGE is told in texts (at most 12, one behind another)");
        PanNights x = new PanNights();
        for (int n = 1; n <= 11; n++) {
            read(x, "", false);
        }
        x.image();
        check.due("the 12th", read(x, "ale 5", false), 12);
        check.due("a 13th", read(x, "ale 6", false), UNSUPPORTED);
        x.back();
        check.due("texts of the image", x.count(1), 11);
        check.due("the 12th again", read(x, "ale 7", false), 12);
        check.due("a 13th again", read(x, "ale 8", false), UNSUPPORTED);
        check.due("ale", x.count(10), 7);
    }

    // ---- which person is there

    private void peopleByThen() {
        check.says("H: a PERSON that there is by then");
        for (int people = 0; people <= 8; people++) {
            PanNights x = people == 0 ? new PanNights() : of(times(ONE, people), null);
            int last = people - 1;
            int other = people == 1 ? 1 : 0;
            fault(x, false, "wrong " + people + " 1", 6);
            fault(x, false, "target " + people, 7);
            fault(x, false, "feud " + people + " with 0", 5);
            fault(x, false, "feud 0 with " + people, people == 0 ? 5 : 12);
            fault(x, false, "wrong 999 1", 6);
            if (people > 0) {
                fault(x, false, "wrong " + last + " 1", -1);
                fault(x, false, "wrong 0 2", -1);
                fault(x, false, "target " + last, -1);
                check.due("target", x.count(5), last);
                fault(x, false, "target 0", -1);
                check.due("target", x.count(5), 0);
                fault(x, false, "feud " + last + " with " + other, people == 1 ? 12 : -1);
            }
            if (people > 1) {
                fault(x, false, "feud 0 with " + last, -1);
                check.due("feud", x.person(0, 5), last);
                check.due("feud", x.person(last, 5), 0);
            }
        }
    }

    private void peopleOfOneText() {
        check.says("H: a PERSON that there is by then");
        PanNights x = new PanNights();
        fault(x, false, "wrong 0 1;" + ONE, 6);
        fault(x, false, "target 0;" + ONE, 7);
        fault(x, false, ONE + ";feud 0 with 1;" + ONE, ONE.length() + 13);
        check.due("nobody", x.count(0), 0);
        fault(x, false, ONE + ";wrong 0 1;target 0;" + ONE + ";feud 0 with 1;wrong 1 2", -1);
        facts(x, 0, 1, 1, 1, 1, 1, 1);
        facts(x, 1, 1, 1, 1, 1, 2, -1);
        fault(x, false, ONE + ";wrong 2 1;ale 21", ONE.length() + 15);
        fault(x, false, "wrong 2 1", 6);
    }

    private void withAnotherOne() {
        check.says("with: another one, else it is wrong");
        PanNights x = of(times(ONE, 8), null);
        for (int p = 0; p < 8; p++) {
            fault(x, false, "feud " + p + " with " + p, 12);
            fault(x, false, "feud 00" + p + " with  0" + p + ";ale 1", 15);
        }
        check.due("none has a feud", x.hated(), -1);
        fault(x, false, "feud 3 with 4;feud 4 with 3;feud 3 with 5", -1);
        check.due("the latest counts", x.person(3, 5), 5);
        check.due("the other way stays", x.person(4, 5), 3);
    }

    private void targetTold() {
        check.says("target: BORNE is 0 then.");
        PanNights x = of(times(person(8, 1, 1, 1), 2) + ";wrong 0 1;target 0", null);
        x.nights(2);
        check.due("borne", x.count(6), 2);
        fault(x, false, "ale 1", -1);
        check.due("borne by another text", x.count(6), 2);
        fault(x, false, "target 0;x", 9);
        check.due("borne by a wrong text", x.count(6), 2);
        fault(x, false, "target 0", -1);
        check.due("borne by the same target", x.count(6), 0);
        x.nights(2);
        check.due("still the target", x.count(5), 0);
        fault(x, false, "target 1", -1);
        check.due("borne by another target", x.count(6), 0);
        check.due("a target needs no wrong in a text", x.count(5), 1);
        check.due("its wrong", x.person(1, 4), 0);
        x.nights(3);
        check.due("no target any more", x.count(5), -1);
    }

    private void options() {
        check.says("person needs N thirst N pride N purse N [ strange ] [ begins ]");
        PanNights x = new PanNights();
        fault(x, false, ONE + ";" + ONE + " strange;" + ONE + " begins;" + ONE + " strange begins", -1);
        int[][] want = {{0, 0}, {1, 0}, {0, 1}, {1, 1}};
        for (int p = 0; p < 4; p++) {
            check.due("strange " + p, x.person(p, 6), want[p][0]);
            check.due("begins " + p, x.person(p, 7), want[p][1]);
        }
        int end = ONE.length();
        fault(x, false, ONE + " begins strange", end + 8);
        fault(x, false, ONE + " strange strange", end + 9);
        fault(x, false, ONE + " begins begins", end + 8);
        fault(x, false, ONE + " strange begins 1", end + 16);
        fault(x, false, ONE + " 1", end + 1);
        fault(x, false, "person thirst 1 needs 1", 7);
        fault(x, false, "person needs 1 thirst 1 purse 1", 24);
        check.due("four", x.count(0), 4);
    }

    private void wrongLines() {
        check.says("The first wrong byte: the begin of the first thing that cannot stand there");
        PanNights x = of(TWO, null);
        String[] lines = {"person needs 1 thirst 2 pride 3 purse 4", "wrong 0 1", "feud 0 with 1", "target 0", "rain 1", "watch 1", "fine 1", "ale 1", "night 1"};
        for (String line : lines) {
            String[] things = line.split(" ");
            int place = 0;
            for (int i = 0; i < things.length; i++) {
                String ahead = line.substring(0, place);
                // cut off ahead of the thing, another sign in its place, and the line twice without a ;
                fault(x, false, ahead, place == 0 ? -1 : place);
                fault(x, false, ahead + "!", place);
                place += things[i].length() + 1;
            }
            fault(x, false, line + " " + line, line.length() + 1);
            x = of(TWO, null);
        }
        check.says("(a number of more digits, or out of its bounds, or that tells none that can be;");
        fault(x, false, "rain 1000", 5);
        fault(x, false, "rain 0100", 5);
        fault(x, false, "rain 101", 5);
        fault(x, false, "rain 100", -1);
        fault(x, false, "target 2", 7);
        fault(x, false, "target 001", -1);
        fault(x, false, "feud 0 with 0", 12);
        check.says("a word that is none");
        for (String word : new String[] {"pan", "need", "spare", "if", "needs", "thirst", "pride", "purse", "strange", "begins", "with", "who", "a", "zzz"}) {
            fault(x, false, word + " 1", 0);
        }
    }

    private void nothingStays() {
        check.says("Of a wrong text nothing stays.");
        String[] lines = {ONE, "wrong 0 9", "feud 0 with 1", "feud 1 with 0", "target 1", "rain 7", "watch 8", "fine 9", "ale 10", "night 11"};
        PanNights x = of(TWO + ";target 0;wrong 0 1;wrong 1 1", "pan 1");
        x.nights(1);
        x.give(1, 1);
        StringBuilder all = new StringBuilder();
        for (String line : lines) {
            all.append(line).append(';');
            check.due("wrong behind " + line, read(x, line + ";ale 21", false), ARG);
            check.due("wrong behind all till " + line, read(x, all.toString(), false), ARG);
        }
        counts(x, 2, 1, 1, 1, 0, 0, 1, 0, 0, 3, 2, 0, 3, 1, 2);
        facts(x, 0, 1, 1, 1, 1, 1, -1, 0, 0);
        facts(x, 1, 1, 1, 1, 2, 1, -1, 0, 0);
        check.due("a right text then", read(x, "", false), 2);
        counts(x, 2, 2, 1, 1, 0, 0, 1, 0, 0, 3, 2, 0, 3, 1, 0);
    }

    // ---- promise 7

    private void noSuchPerson() {
        check.says("IndexOutOfBoundsException: there is no such PERSON.");
        for (int people : new int[] {1, 2, 7, 8}) {
            PanNights x = of(times(ONE, people), null);
            bounds("person(.., 0) of " + people, n -> x.person(n, 0), 0, people - 1, OUT);
            bounds("person(.., 7) of " + people, n -> x.person(n, 7), 0, people - 1, OUT);
        }
    }

    private void noSuchFact() {
        check.says("NoSuchElementException: another what.");
        PanNights x = of(ONE, null);
        bounds("person(0, ..)", n -> x.person(0, n), 0, 7, NO_SUCH);
        check.says("Of several exceptions the one told first is thrown");
        check.due("person(1, 8)", () -> x.person(1, 8), OUT);
        check.due("person(-1, -1)", () -> x.person(-1, -1), OUT);
    }
}
