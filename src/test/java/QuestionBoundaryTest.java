/** The edges of promises 17 to 39 and 43: crowds, prices, what was heard, feuds, fines, shares. */
public final class QuestionBoundaryTest extends Cases {
    private static final String EIGHT = times(person(0, 0, 0, 0), 8);
    private static final String STUBBORN = times(person(8, 0, 0, 0), 8);

    private QuestionBoundaryTest() {
        super("QuestionBoundaryTest");
    }

    public static void main(String[] args) {
        QuestionBoundaryTest t = new QuestionBoundaryTest();
        t.neverInIt();
        t.needNoMore();
        t.allAtOnce();
        t.longestCrowd();
        t.roundsOfNone();
        t.whenNone();
        t.loudOfNone();
        t.setsOfNone();
        t.noSuchPerson();
        t.bothAreOne();
        t.fewestBounds();
        t.fewestSets();
        t.fewestInPlace();
        t.keepByPride();
        t.keepSets();
        t.tips();
        t.prices();
        t.can();
        t.dearest();
        t.dearestNone();
        t.bringsBounds();
        t.brings();
        t.best();
        t.rests();
        t.restsOfNobody();
        t.heardBytes();
        t.heardPeople();
        t.heardSets();
        t.heardSure();
        t.ask();
        t.askNone();
        t.feuded();
        t.feuds();
        t.rings();
        t.hated();
        t.watched();
        t.ripest();
        t.brave();
        t.alike();
        t.shares();
        t.check.close();
    }

    /** The target 0, who never comes, and others who need this. */
    private static PanNights needing(int... needs) {
        StringBuilder s = new StringBuilder(person(8, 0, 0, 0));
        for (int n : needs) {
            s.append(';').append(person(n, 0, 0, 0));
        }
        return of(s.toString(), null);
    }

    // ---- promises 17 to 20

    private void neverInIt() {
        check.says("A CROWD to one by some BEGINNERS (that one is never in it)");
        PanNights x = of(EIGHT, null);
        for (int p = 0; p < 8; p++) {
            check.due("comes(" + p + ")", x.comes(p), 255 - (1 << p));
            x.begin(p, true);
            check.due("comes(" + p + "), a beginner", x.comes(p), 255 - (1 << p));
        }
        for (int p = 0; p < 8; p++) {
            check.due("all are beginners: rounds(" + p + ")", x.rounds(p), 0);
        }
        PanNights one = of(person(0, 0, 0, 0) + " begins", null);
        check.due("the only one", one.comes(0), 0);
    }

    private void needNoMore() {
        check.says("in each next round all others at once who NEED no more than how many are there ahead of it");
        PanNights x = needing(8, 1, 2, 3);
        check.due("none begins", x.comes(0), 0);
        x.begin(1, true);
        check.due("one begins: all come", x.comes(0), 0b11110);
        for (int p = 1; p <= 4; p++) {
            check.due("when(" + p + ")", x.when(p, 0), p - 1);
        }
        x.teach(3, 3);
        check.due("one needs one more", x.comes(0), 0b00110);
        x.teach(4, 2);
        check.due("another one less", x.comes(0), 0b11110);
        check.due("when(4)", x.when(4, 0), 2);
        check.due("when(3)", x.when(3, 0), 3);
        // seven others: six are there ahead of the seventh at most
        PanNights y = needing(0, 0, 0, 0, 0, 0, 6);
        check.due("who needs six of six", y.comes(0), 0b11111110);
        y.teach(7, 7);
        check.due("who needs seven of six", y.comes(0), 0b01111110);
    }

    private void allAtOnce() {
        check.says("all others at once");
        // both need 1: the one who came in the same round does not count for the other one
        PanNights x = needing(0, 1, 1, 3);
        check.due("when(1)", x.when(1, 0), 1);
        check.due("when(2)", x.when(2, 0), 2);
        check.due("when(3)", x.when(3, 0), 2);
        check.due("when(4)", x.when(4, 0), 3);
        PanNights y = needing(1, 0);
        check.due("the least is no earlier", y.when(1, 0), 2);
        check.due("all in one round", of(EIGHT, null).rounds(3), 1);
    }

    private void longestCrowd() {
        check.says("till in a round nobody comes");
        PanNights x = needing(0, 1, 2, 3, 4, 5, 6);
        check.due("an empty round 0 is no end", x.comes(0), 0b11111110);
        check.due("rounds", x.rounds(0), 7);
        for (int p = 1; p < 8; p++) {
            check.due("when(" + p + ")", x.when(p, 0), p);
        }
        check.due("to another one", x.comes(7), 0b01111110);
        check.due("rounds to another one", x.rounds(7), 6);
        x.teach(4, 4);
        check.due("a gap is the end", x.comes(0), 0b00001110);
        check.due("rounds then", x.rounds(0), 3);
    }

    private void roundsOfNone() {
        check.says("ROUNDS: in which round the last ones come (0: BEGINNERS alone, or nobody).");
        PanNights x = of(STUBBORN, null);
        check.due("nobody", x.rounds(0), 0);
        x.begin(0, true);
        check.due("the told one alone begins", x.rounds(0), 0);
        x.begin(1, true);
        check.due("a beginner alone", x.rounds(0), 0);
        x.teach(2, 1);
        check.due("one more", x.rounds(0), 1);
        check.due("a new question forgets the one before", x.rounds(2), 0);
    }

    private void whenNone() {
        check.says("WHEN one comes to another one: the round; none.");
        PanNights x = needing(8, 1);
        check.due("nobody", x.when(1, 0), -1);
        check.due("nobody", x.when(2, 0), -1);
        x.begin(1, true);
        check.due("a beginner", x.when(1, 0), 0);
        check.due("the next", x.when(2, 0), 1);
        check.due("2 to 1: nobody else is there", x.when(2, 1), -1);
        check.due("0 to 1", x.when(0, 1), -1);
    }

    private void loudOfNone() {
        check.says("NOISE: PANS of all who came, together.");
        PanNights x = of(STUBBORN, "pan 30");
        check.due("nobody", x.loud(0), 0);
        x.begin(0, true);
        check.due("the told one is not in it", x.loud(0), 0);
        check.due("to another one", x.loud(1), 31);
        x.begin(1, true);
        check.due("two", x.loud(2), 62);
    }

    private void setsOfNone() {
        check.says("Sets are bits; of none they count for nothing.");
        PanNights x = of(times(person(8, 0, 1, 0), 2), null);
        check.due("nobody comes", x.comes(0), 0);
        check.due("no beginners are needed", x.fewest(0, 0), 0);
        check.due("nobody is to be kept", x.keep(0), 0);
        check.due("nobody is sure", hear(x, 0, true, ""), 0);
        check.due("nobody has a feud", x.feuded(0), 0);
        check.due("no beginners", x.count(11), 0);
        check.says("in round 0 these come");
        x.begin(1, true);
        check.due("a beginner comes", x.comes(0), 0b10);
        check.due("in round 0", x.when(1, 0), 0);
    }

    private void noSuchPerson() {
        check.says("IndexOutOfBoundsException: there is no such PERSON.");
        for (int people : new int[] {1, 2, 8}) {
            PanNights x = of(times(person(0, 0, 0, 0), people), null);
            OfNumber[] calls = {n -> x.comes(n), n -> x.rounds(n), n -> x.loud(n), n -> x.fewest(n, 0), n -> x.keep(n), n -> x.tips(n), n -> x.price(n),
                n -> x.can(n), n -> x.rests(n), n -> x.heard(n, false), n -> x.ask(n), n -> x.feuded(n), n -> x.ring(n), n -> x.watched(n), n -> x.brave(n)};
            for (int i = 0; i < calls.length; i++) {
                bounds("question " + i + " of " + people, calls[i], 0, people - 1, OUT);
            }
        }
        PanNights x = of(times(person(0, 0, 0, 0), 3), null);
        for (int n : new int[] {-1, 3, Integer.MIN_VALUE, Integer.MAX_VALUE}) {
            check.due("when(" + n + ", 0)", () -> x.when(n, 0), OUT);
            check.due("when(0, " + n + ")", () -> x.when(0, n), OUT);
            check.due("share(" + n + ", 0)", () -> x.share(n, 0), OUT);
            check.due("share(0, " + n + ")", () -> x.share(0, n), OUT);
        }
    }

    private void bothAreOne() {
        check.says("IllegalArgumentException: a number is none, or two are one.");
        PanNights x = of(times(person(0, 0, 0, 0), 3), null);
        for (int p = 0; p < 3; p++) {
            int one = p;
            check.due("when(" + p + ", " + p + ")", () -> x.when(one, one), ARG);
            check.due("share(" + p + ", " + p + ")", () -> x.share(one, one), ARG);
        }
        check.says("Of several exceptions the one told first is thrown");
        for (int n : new int[] {-1, 3, Integer.MAX_VALUE}) {
            check.due("when(" + n + ", " + n + ")", () -> x.when(n, n), OUT);
            check.due("share(" + n + ", " + n + ")", () -> x.share(n, n), OUT);
        }
    }

    // ---- promise 21

    private void fewestBounds() {
        check.says("FEWEST to one for X (0 to 8)");
        PanNights x = of(STUBBORN, null);
        bounds("fewest(0, ..)", n -> x.fewest(0, n), 0, 8, ARG);
        check.due("none for 0", x.fewest(0, 0), 0);
        check.due("one for 1", x.fewest(0, 1), 2);
        check.due("seven for 7", x.fewest(0, 7), 0b11111110);
        check.due("never 8", x.fewest(0, 8), -1);
        check.due("seven for 7 to the last one", x.fewest(7, 7), 0b01111111);
        PanNights one = of(person(0, 0, 0, 0), null);
        check.due("the only one for 0", one.fewest(0, 0), 0);
        check.due("the only one for 1", one.fewest(0, 1), -1);
        PanNights eager = of(EIGHT, null);
        check.due("all by themselves", eager.fewest(0, 7), 0);
        check.due("never 8", eager.fewest(0, 8), -1);
        check.says("Of several exceptions the one told first is thrown");
        check.due("fewest(8, 9)", () -> x.fewest(8, 9), OUT);
        check.due("fewest(-1, -1)", () -> x.fewest(-1, -1), OUT);
    }

    private void fewestSets() {
        check.says("by whom X at least come: of several sets the least as bits; none.");
        // {1} brings none else, {2} none, {3} brings 1 and then 2: one is fewer than the two of less bits
        PanNights x = needing(1, 2, 8);
        check.due("for 3: 3 alone", x.fewest(0, 3), 0b1000);
        check.due("for 2: 2 brings 1, less than 3", x.fewest(0, 2), 0b0100);
        check.due("for 1: 1 is the least", x.fewest(0, 1), 0b0010);
        PanNights y = needing(8, 8, 8, 8);
        check.due("two of four: the least two", y.fewest(0, 2), 0b00110);
        check.due("two of four to another one", y.fewest(1, 2), 0b00101);
        // by one alone four come, more than are asked for
        PanNights z = needing(1, 1, 1, 1);
        check.due("at least", z.fewest(0, 2), 0b00010);
        check.due("all by one", z.fewest(0, 4), 0b00010);
        check.due("five of four", z.fewest(0, 5), -1);
    }

    private void fewestInPlace() {
        check.says("the fewest PEOPLE as BEGINNERS (in place of those who are)");
        PanNights x = needing(8, 8, 8);
        x.begin(3, true);
        check.due("those who are do not count", x.fewest(0, 1), 0b0010);
        check.due("nor for two", x.fewest(0, 2), 0b0110);
        check.due("they are yet", x.count(11), 0b1000);
        x.begin(0, true);
        check.due("nor the told one", x.fewest(0, 1), 0b0010);
    }

    // ---- promise 22

    private void keepByPride() {
        check.says("so that NOISE is below its PRIDE");
        // three come with 2 pans each: a noise of 6
        int[] pride = {0, 1, 2, 3, 4, 5, 6, 7, 99};
        int[] want = {-1, 0b1110, 0b1110, 0b0110, 0b0110, 0b0010, 0b0010, 0, 0};
        for (int i = 0; i < pride.length; i++) {
            PanNights x = of(person(8, 0, pride[i], 0) + ";" + times(person(8, 0, 0, 0) + " begins", 3), "pan 1");
            check.due("pride " + pride[i], x.keep(0), want[i]);
        }
        check.says("NONE, if it cannot be (PRIDE is 0).");
        check.due("pride 0, nobody comes", of(person(8, 0, 0, 0) + ";" + person(8, 0, 0, 0), null).keep(0), -1);
        check.due("pride 0, nobody else is", of(person(8, 0, 0, 0), null).keep(0), -1);
        check.due("pride 1, nobody comes", of(person(8, 0, 1, 0) + ";" + person(8, 0, 0, 0), null).keep(0), 0);
    }

    private void keepSets() {
        check.says("of several sets the least as bits (none at all, if it is so)");
        // without 3 nobody comes, without 1 there are 2 and 3, without 2 there are 1 and 3
        PanNights x = of(person(8, 0, 3, 0) + ";" + person(1, 0, 0, 0) + ";" + person(1, 0, 0, 0) + ";" + person(8, 0, 0, 0) + " begins", null);
        check.due("one is enough: the least", x.keep(0), 0b0010);
        check.due("a crowd of three is not below 3", x.loud(0), 3);
        PanNights y = of(person(8, 0, 2, 0) + ";" + person(1, 0, 0, 0) + ";" + person(1, 0, 0, 0) + ";" + person(8, 0, 0, 0) + " begins", null);
        check.due("one of more bits is fewer than two of less", y.keep(0), 0b1000);
        check.says("the fewest of those who come to be kept at home (they never come)");
        PanNights z = of(person(8, 0, 1, 0) + ";" + person(0, 0, 0, 0) + " begins", null);
        check.due("kept, though it begins and needs nothing", z.keep(0), 0b10);
        PanNights all = of(person(8, 0, 1, 0) + ";" + times(person(0, 0, 0, 0), 7), null);
        check.due("all seven", all.keep(0), 0b11111110);
    }

    // ---- promise 23

    private void tips() {
        check.says("TIPS to one: of those who come the one without whom (kept at home) the fewest would come (of several the least; none, if nobody comes).");
        check.due("nobody comes", needing(8, 8).tips(0), -1);
        check.due("nobody else is", needing().tips(0), -1);
        check.due("one alone", needing(8, 0).tips(0), 2);
        check.due("all alike: the least", needing(0, 0, 0).tips(0), 1);
        check.due("without 3 nobody", needing(2, 1, 0).tips(0), 3);
        check.due("without 1 or 2 one less, without 3 two less", needing(2, 2, 0, 0).tips(0), 3);
        PanNights x = needing(8, 1);
        x.begin(1, true);
        check.due("a beginner kept at home", x.tips(0), 1);
        check.due("0 to another one", of(times(person(0, 0, 0, 0), 3), null).tips(1), 0);
        check.due("the last of seven", of(times(person(1, 0, 0, 0), 7) + ";" + person(0, 0, 0, 0), null).tips(0), 7);
    }

    // ---- promises 24 to 28

    private void prices() {
        check.says("PRICE of one: ALE for each who comes to it");
        for (int ale : new int[] {0, 1, 20}) {
            PanNights x = of(EIGHT + ";ale " + ale, null);
            check.due("seven by " + ale, x.price(0), 7 * ale);
            PanNights none = of(STUBBORN + ";ale " + ale, null);
            check.due("nobody by " + ale, none.price(0), 0);
            check.due("nobody by " + ale + ": a purse of 0 can", none.can(0), true);
        }
    }

    private void can() {
        check.says("CAN: whether its PURSE has that.");
        for (int purse : new int[] {0, 139, 140, 141, 999}) {
            PanNights x = of(person(0, 0, 99, purse) + ";" + times(person(0, 0, 0, 0), 7) + ";ale 20", null);
            check.due("purse " + purse, x.can(0), purse >= 140);
        }
        check.due("ale 0", of(EIGHT + ";ale 0", null).can(0), true);
    }

    private void dearest() {
        check.says("DEAREST: the PERSON of the greatest PRICE to whom NOISE is PRIDE at least, whose PURSE is PRICE at least, and to whom somebody comes");
        // to 0 and 1 two come each: a noise of 2, a price of 4
        int[][] due = {{2, 4, 0}, {3, 4, 1}, {2, 3, 1}, {0, 999, 0}, {99, 999, 1}};
        for (int[] d : due) {
            PanNights x = of(person(0, 0, d[0], d[1]) + ";" + person(0, 0, 2, 4) + ";" + person(0, 0, 99, 0), null);
            check.due("pride " + d[0] + ", purse " + d[1], x.dearest(), d[2]);
        }
        // 1 never comes: to it come two, to the others one
        PanNights more = of(person(0, 0, 0, 99) + ";" + person(8, 0, 0, 99) + ";" + person(0, 0, 0, 99), null);
        check.due("the greatest price", more.dearest(), 1);
        PanNights free = of(EIGHT + ";ale 0", null);
        check.due("a price of 0 is one", free.dearest(), 0);
        check.says("(of several the least; none)");
        check.due("of several the least", of(times(person(0, 0, 0, 99), 8), null).dearest(), 0);
    }

    private void dearestNone() {
        check.says("`int dearest()`: DEAREST; NONE.");
        check.due("nobody comes", of(times(person(8, 0, 0, 99), 2), null).dearest(), -1);
        check.due("nobody can", of(times(person(0, 0, 0, 1), 2), null).dearest(), -1);
        check.due("too proud", of(times(person(0, 0, 2, 99), 2), null).dearest(), -1);
        check.due("the only one", of(person(0, 0, 0, 99), null).dearest(), -1);
        check.due("the last one", of(person(0, 0, 9, 99) + ";" + person(0, 0, 1, 2), null).dearest(), 1);
    }

    private void bringsBounds() {
        check.says("BRINGS of an ALE (0 to 20)");
        PanNights x = of(times(person(0, 0, 0, 999), 8), null);
        bounds("brings(..)", n -> x.brings(n), 0, 20, ARG);
        check.due("brings(0)", x.brings(0), 0);
        check.due("brings(20)", x.brings(20), 8 * 7 * 20);
        check.due("the ale stays", x.count(10), 2);
        PanNights nobody = new PanNights();
        bounds("brings(..) of nobody", n -> nobody.brings(n), 0, 20, ARG);
    }

    private void brings() {
        check.says("PRICES by it of all PEOPLE together to whom NOISE is PRIDE at least and whose PURSE is PRICE at least.");
        // two come to each: a noise of 2; 0 pays up to 5 for each, 1 up to 4, 2 is too proud
        PanNights x = of(person(0, 0, 2, 11) + ";" + person(0, 0, 0, 8) + ";" + person(0, 0, 3, 999), null);
        int[] want = {0, 4, 8, 12, 16, 10, 0, 0};
        for (int ale = 0; ale < want.length; ale++) {
            check.due("brings(" + ale + ")", x.brings(ale), want[ale]);
        }
    }

    private void best() {
        check.says("BEST: the ALE that BRINGS the most (of several the least).");
        check.due("nobody at all", new PanNights().best(), 0);
        check.due("nobody pays", of(STUBBORN, null).best(), 0);
        check.due("nobody can", of(EIGHT, null).best(), 0);
        check.due("the greatest", of(times(person(0, 0, 0, 999), 2), null).best(), 20);
        check.due("one less", of(times(person(0, 0, 0, 19), 2), null).best(), 19);
        check.due("one", of(times(person(0, 0, 0, 1), 2), null).best(), 1);
        // 0 pays up to 10, 1 up to 5: by 5 they pay 10, by 10 one of them 10
        check.due("of several the least", of(person(0, 0, 0, 10) + ";" + person(0, 0, 0, 5), null).best(), 5);
        check.due("one more is more", of(person(0, 0, 0, 11) + ";" + person(0, 0, 0, 5), null).best(), 11);
    }

    // ---- promise 29

    private void rests() {
        check.says("choices (2 times the one's and the village's) from which neither would have more by another one of its own: as bits.");
        for (int price = 0; price <= 4; price++) {
            for (int noise = 1; noise <= 4; noise++) {
                PanNights x = of(person(8, 0, 0, 0) + ";" + person(0, noise % 2, 0, 0) + ";ale " + price, "pan " + (noise - 1));
                for (int wrong = 0; wrong <= 5; wrong++) {
                    x.wrong(0, wrong);
                    // to come to one who dances is less than nothing, so that it stays at home then; nothing is more than a noise
                    boolean pays = price <= noise && price <= wrong;
                    boolean bears = noise <= price && noise <= wrong;
                    check.due("price " + price + ", noise " + noise + ", wrong " + wrong, x.rests(0), (pays ? 1 : 0) + (bears ? 4 : 0) + 32);
                }
            }
        }
        check.says("by paying the one loses PRICE (PURSE not looked at)");
        PanNights poor = of(person(8, 0, 0, 0) + ";" + person(0, 0, 0, 0) + ";ale 1;wrong 0 9", "pan 1");
        check.due("a purse of 0", poor.rests(0), 1 + 32);
    }

    private void restsOfNobody() {
        check.says("if it does not come, the one loses 1 by paying, nothing else; the village has nothing");
        PanNights x = of(STUBBORN, null);
        check.due("nobody comes, no wrong", x.rests(0), 1 + 4 + 8 + 32);
        x.wrong(0, 9);
        check.due("nobody comes, a wrong", x.rests(0), 1 + 4 + 8 + 32);
        check.due("the only one", of(person(0, 0, 0, 0), null).rests(0), 1 + 4 + 8 + 32);
    }

    // ---- promises 30, 31

    private static String hear(PanNights x, int target, boolean sure, String pairs) {
        tape(x, pairs);
        return Check.answer(() -> x.heard(target, sure));
    }

    private static String asked(PanNights x, int target, String pairs) {
        tape(x, pairs);
        return Check.answer(() -> x.ask(target));
    }

    private void both(String what, PanNights x, int target, String pairs, boolean right) {
        check.due("heard: " + what, hear(x, target, false, pairs).equals(ARG), !right);
        check.due("sure: " + what, hear(x, target, true, pairs).equals(ARG), !right);
        check.due("ask: " + what, asked(x, target, pairs).equals(ARG), !right);
    }

    private void heardBytes() {
        check.says("of each two bytes: the first, the second; at most 40 bytes");
        PanNights x = of(STUBBORN, null);
        String pair = bytes(1, 2);
        both("two bytes", x, 0, pair, true);
        both("40 bytes", x, 0, pair.repeat(20), true);
        both("42 bytes", x, 0, pair.repeat(21), false);
        both("41 bytes", x, 0, pair.repeat(20) + bytes(1), false);
        both("39 bytes", x, 0, pair.repeat(19) + bytes(1), false);
        both("one byte", x, 0, bytes(1), false);
        both("three bytes", x, 0, pair + bytes(1), false);
        both("400 bytes", x, 0, pair.repeat(200), false);
        both("wrong in the last pair", x, 0, pair.repeat(19) + bytes(1, 1), false);
        both("wrong in the first pair", x, 0, bytes(1, 1) + pair.repeat(19), false);
        check.says("none may be told");
        both("no byte", x, 0, "", true);
        check.due("all sets", hear(x, 0, false, ""), 128);
    }

    private void heardPeople() {
        check.says("IllegalArgumentException: the TAPE is not that (there are no such PEOPLE, one of both is the told one, or both are one; none may be told).");
        PanNights x = of(STUBBORN, null);
        both("0 and 7", x, 3, bytes(0, 7), true);
        both("7 and 0", x, 3, bytes(7, 0), true);
        both("8 as the first", x, 3, bytes(8, 0), false);
        both("8 as the second", x, 3, bytes(0, 8), false);
        both("255 as the first", x, 3, bytes(255, 0), false);
        both("255 as the second", x, 3, bytes(0, 255), false);
        both("128 as the first", x, 3, bytes(128, 1), false);
        both("the told one as the first", x, 3, bytes(3, 0), false);
        both("the told one as the second", x, 3, bytes(0, 3), false);
        both("both are one", x, 3, bytes(7, 7), false);
        both("both are the told one", x, 3, bytes(3, 3), false);
        both("in the second pair", x, 3, bytes(0, 1, 1, 8), false);
        PanNights two = of(times(person(0, 0, 0, 0), 2), null);
        both("one other alone", two, 0, bytes(1, 1), false);
        both("one other and the told one", two, 0, bytes(1, 0), false);
        both("one other and none", two, 0, bytes(1, 2), false);
        check.says("Of several exceptions the one told first is thrown");
        check.due("heard(8)", hear(x, 8, true, bytes(7, 7)), OUT);
        check.due("ask(8)", asked(x, 8, bytes(7, 7)), OUT);
        check.due("heard(-1)", hear(x, -1, false, bytes(1)), OUT);
        check.due("ask(-1)", asked(x, -1, bytes(1)), OUT);
    }

    private void heardSets() {
        check.says("by which in each pair both come to it and the first in an earlier round: how many");
        PanNights x = needing(8, 1);
        check.due("none told", hear(x, 0, false, ""), 4);
        // by {1} 2 comes behind it; by {2} 1 does not come; by both they are in one round
        check.due("1 ahead of 2", hear(x, 0, false, bytes(1, 2)), 1);
        check.due("2 ahead of 1", hear(x, 0, false, bytes(2, 1)), 0);
        check.due("both ways", hear(x, 0, false, bytes(1, 2, 2, 1)), 0);
        check.due("told twice", hear(x, 0, false, bytes(1, 2, 1, 2)), 1);
        x.begin(2, true);
        check.due("those who begin now do not count", hear(x, 0, false, bytes(1, 2)), 1);
        PanNights eager = needing(0, 0);
        check.due("by themselves in round 1: 1 begins", hear(eager, 0, false, bytes(1, 2)), 1);
        check.says("sets of BEGINNERS (of all PEOPLE but that one, in place of those who are)");
        check.due("of eight", hear(of(EIGHT, null), 5, false, ""), 128);
        check.due("of two", hear(of(times(person(0, 0, 0, 0), 2), null), 1, false, ""), 2);
        check.due("of one", hear(of(person(0, 0, 0, 0), null), 0, false, ""), 1);
    }

    private void heardSure() {
        check.says("SURE: who is in all of these, as bits (0 without).");
        PanNights x = needing(8, 1);
        check.due("none told: the empty set is one", hear(x, 0, true, ""), 0);
        check.due("one set", hear(x, 0, true, bytes(1, 2)), 0b010);
        check.due("no set", hear(x, 0, true, bytes(2, 1)), 0);
        check.due("no set behind one that had one", hear(x, 0, true, bytes(1, 2, 2, 1)), 0);
        PanNights y = needing(8, 1, 8);
        check.due("two sets: 3 is free", hear(y, 0, false, bytes(1, 2)), 2);
        // by {3} 2 comes, but 1 does not
        check.due("in both", hear(y, 0, true, bytes(1, 2)), 0b0010);
        check.due("the only one", hear(of(person(0, 0, 0, 0), null), 0, true, ""), 0);
        PanNights last = of(times(person(8, 0, 0, 0), 6) + ";" + person(1, 0, 0, 0) + ";" + person(8, 0, 0, 0), null);
        check.due("the last one is sure", hear(last, 0, true, bytes(7, 6)), 0b10000000);
        check.due("five are free", hear(last, 0, false, bytes(7, 6)), 32);
    }

    private void ask() {
        check.says("the other PERSON by whose being among the BEGINNERS these are parted so that the greater part is the least (of several the least; none with fewer than two).");
        PanNights x = of(STUBBORN, null);
        check.due("all part alike: the least", asked(x, 3, ""), 0);
        check.due("not the told one", asked(x, 0, ""), 1);
        PanNights two = of(times(person(8, 0, 0, 0), 2), null);
        check.due("two sets: the other one", asked(two, 0, ""), 1);
        check.due("two sets: the other one", asked(two, 1, ""), 0);
        // 1 is in all, 2 in none, 3 in one of two
        check.due("who parts at all", asked(needing(8, 1, 8), 0, bytes(1, 2)), 3);
        // 2 needs one more beside 1, which begins: {1, 3}, {1, 4}, {1, 3, 4}
        check.due("sets", hear(needing(8, 2, 8, 8), 0, false, bytes(1, 2)), 3);
        check.due("of three sets 2 to 1: the least of those", asked(needing(8, 2, 8, 8), 0, bytes(1, 2)), 3);
        // {}, {1}, {1, 3}, {1, 4}, {1, 3, 4}: 1 parts them 4 to 1, 3 and 4 both 3 to 2
        check.due("five sets", hear(needing(0, 1, 0, 0), 0, false, bytes(1, 2)), 5);
        check.due("not the first who parts, but who parts best", asked(needing(0, 1, 0, 0), 0, bytes(1, 2)), 3);
    }

    private void askNone() {
        check.says("none with fewer than two");
        PanNights x = needing(8, 1);
        check.due("no set", asked(x, 0, bytes(2, 1)), -1);
        check.due("one set", asked(x, 0, bytes(1, 2)), -1);
        check.due("four sets", asked(x, 0, ""), 1);
        check.due("the only one", asked(of(person(0, 0, 0, 0), null), 0, ""), -1);
    }

    // ---- promises 32 to 35

    private void feuded() {
        check.says("FEUDED to one: who comes to it and has a FEUD with it, as bits.");
        PanNights x = of(EIGHT, null);
        check.due("no feud", x.feuded(0), 0);
        for (int p = 1; p < 8; p++) {
            x.feud(p, 0);
        }
        check.due("all", x.feuded(0), 254);
        x.teach(7, 8);
        check.due("one does not come", x.feuded(0), 126);
        x.feud(0, 1);
        check.due("to 1 by 0 alone", x.feuded(1), 1);
        check.due("to 2 nobody", x.feuded(2), 0);
        check.due("the only one", of(person(0, 0, 0, 0), null).feuded(0), 0);
    }

    private void feuds() {
        check.says("FEUDS: pairs of PEOPLE who have a FEUD with each other: how many.");
        PanNights x = of(EIGHT, null);
        check.due("none", x.feuds(), 0);
        x.feud(0, 7);
        check.due("one way", x.feuds(), 0);
        x.feud(7, 0);
        check.due("each other", x.feuds(), 1);
        for (int p = 1; p < 4; p++) {
            x.feud(p, 7 - p);
            x.feud(7 - p, p);
        }
        check.due("four at most", x.feuds(), 4);
        x.feud(3, -1);
        check.due("three", x.feuds(), 3);
    }

    private void rings() {
        check.says("RING of a PERSON: whether by FEUDS, from one to the one that it has it with, one comes back to it.");
        PanNights x = of(EIGHT, null);
        check.due("no feud", x.ring(0), false);
        for (int p = 0; p < 7; p++) {
            x.feud(p, p + 1);
        }
        check.due("a chain without an end", x.ring(0), false);
        x.feud(7, 1);
        check.due("it leads into a ring of seven", x.ring(0), false);
        check.due("a ring of seven", x.ring(1), true);
        x.feud(7, 0);
        for (int p = 0; p < 8; p++) {
            check.due("a ring of eight", x.ring(p), true);
        }
        x.feud(7, 6);
        check.due("a long way into a ring of two", x.ring(0), false);
        check.due("a ring of two", x.ring(6), true);
        check.due("a ring of two", x.ring(7), true);
        check.due("at its door", x.ring(5), false);
    }

    private void hated() {
        check.says("HATED: with whom the most have a FEUD (of several the least; none).");
        PanNights x = of(EIGHT, null);
        check.due("none", x.hated(), -1);
        x.feud(0, 7);
        check.due("one", x.hated(), 7);
        x.feud(7, 3);
        check.due("of two the least", x.hated(), 3);
        x.feud(1, 7);
        check.due("two have it with 7", x.hated(), 7);
        for (int p = 0; p < 7; p++) {
            x.feud(p, 7);
        }
        check.due("seven have it with 7", x.hated(), 7);
        for (int p = 0; p < 8; p++) {
            x.feud(p, -1);
        }
        check.due("none any more", x.hated(), -1);
        x.feud(7, 1);
        x.feud(6, 0);
        check.due("of two the first of all", x.hated(), 0);
    }

    // ---- promises 36 to 39, 43

    private void watched() {
        check.says("WATCHED to one: FINE of all who come to it (each PURSE at most), together.");
        int[] purses = {0, 29, 30, 31, 999};
        int[] want = {0, 29, 30, 30, 30};
        for (int i = 0; i < purses.length; i++) {
            check.due("purse " + purses[i], of(person(8, 0, 0, 999) + ";" + person(0, 0, 0, purses[i]) + ";fine 30", null).watched(0), want[i]);
        }
        check.due("seven", of(times(person(0, 0, 0, 30), 8) + ";fine 30", null).watched(4), 210);
        check.due("fine 0", of(times(person(0, 0, 0, 30), 8) + ";fine 0", null).watched(4), 0);
        check.due("nobody comes", of(times(person(8, 0, 0, 30), 8), null).watched(4), 0);
    }

    private void ripest() {
        check.says("RIPEST: to whom WATCHED is the most (of several the least; none, if it is 0 for all).");
        check.due("no purses", of(EIGHT, null).ripest(), -1);
        check.due("no fine", of(times(person(0, 0, 0, 9), 8) + ";fine 0", null).ripest(), -1);
        check.due("nobody comes", of(times(person(8, 0, 0, 9), 8), null).ripest(), -1);
        check.due("of several the least", of(times(person(0, 0, 0, 9), 8), null).ripest(), 0);
        check.due("1 to the last one", of(person(0, 0, 0, 1) + ";" + person(0, 0, 0, 0), null).ripest(), 1);
        check.due("one more to the last one", of(times(person(0, 0, 0, 9), 7) + ";" + person(0, 0, 0, 2), null).ripest(), 7);
    }

    private void brave() {
        check.says("BRAVE to one: the other PERSON who NEEDS the least (of several the least; none).");
        check.due("nobody else", of(person(0, 0, 0, 0), null).brave(0), -1);
        check.due("of several the least", of(EIGHT, null).brave(3), 0);
        check.due("of several the least other one", of(EIGHT, null).brave(0), 1);
        check.due("of several who need 8", of(STUBBORN, null).brave(0), 1);
        check.due("the last one", of(times(person(1, 0, 0, 0), 7) + ";" + person(0, 0, 0, 0), null).brave(0), 7);
        check.due("not the told one", of(times(person(1, 0, 0, 0), 7) + ";" + person(0, 0, 0, 0), null).brave(7), 0);
        check.due("not the first of all", of(person(5, 0, 0, 0) + ";" + person(0, 0, 0, 0) + ";" + person(3, 0, 0, 0), null).brave(1), 2);
        check.due("by far", of(STUBBORN, times("need 30", 12)).brave(7), 0);
        check.due("spared to 0", of(person(8, 0, 0, 0) + ";" + person(5, 0, 0, 0) + ";" + person(3, 0, 0, 0), "spare 5").brave(0), 1);
    }

    private void alike() {
        check.says("ALIKE: pairs of PEOPLE of like THRESHOLD, THIRST and PRIDE: how many.");
        check.due("one alone", of(person(0, 0, 0, 0), null).alike(), 0);
        check.due("two", of(times(person(8, 9, 99, 1), 2), null).alike(), 1);
        check.due("eight", of(EIGHT, null).alike(), 28);
        check.due("another threshold", of(person(1, 1, 1, 1) + ";" + person(2, 1, 1, 1), null).alike(), 0);
        check.due("another thirst", of(person(1, 1, 1, 1) + ";" + person(1, 2, 1, 1), null).alike(), 0);
        check.due("another pride", of(person(1, 1, 1, 1) + ";" + person(1, 1, 2, 1), null).alike(), 0);
        check.due("another purse", of(person(1, 1, 1, 1) + ";" + person(1, 1, 1, 2) + " strange begins;wrong 0 1;feud 0 with 1", null).alike(), 1);
        check.due("the first and the last", of(person(1, 1, 1, 1) + ";" + person(1, 2, 1, 1) + ";" + person(1, 1, 1, 1), null).alike(), 1);
    }

    private void shares() {
        check.says("SHARE of a PERSON in the NOISE to another one: its PANS in hundredths, rounded down (0, if it does not come).");
        check.due("nobody comes", of(STUBBORN, null).share(1, 0), 0);
        check.due("one alone", needing(0, 8).share(1, 0), 100);
        check.due("one who does not come", needing(0, 8).share(2, 0), 0);
        check.due("a half", needing(0, 0).share(1, 0), 50);
        check.due("a third", needing(0, 0, 0).share(2, 0), 33);
        check.due("a seventh", of(EIGHT, null).share(7, 0), 14);
        check.due("a seventh of the first", of(EIGHT, null).share(0, 7), 14);
        PanNights x = of(times(person(0, 0, 0, 0), 3), "pan 1 if who < 2");
        check.due("two thirds", x.share(1, 0), 66);
        PanNights loud = of(times(person(0, 0, 0, 0), 3), times("pan 30 if who < 2", 12));
        check.due("361 of 362", loud.share(1, 0), 99);
        check.due("1 of 362", loud.share(2, 0), 0);
    }
}
