/** The edges of promises 16, 40 to 42 and 44 to 48: nights, draws, nights ahead, trials, the log. */
public final class NightBoundaryTest extends Cases {
    private NightBoundaryTest() {
        super("NightBoundaryTest");
    }

    public static void main(String[] args) {
        NightBoundaryTest t = new NightBoundaryTest();
        t.howManyNights();
        t.howManyCame();
        t.seedGoesRound();
        t.rainByDraws();
        t.watchByDraws();
        t.drawsOfANight();
        t.wetAtTheCrowd();
        t.fines();
        t.finedOnly();
        t.noiseAndPride();
        t.purseAndAle();
        t.thirst();
        t.noiseByFour();
        t.threeNights();
        t.borneWithout();
        t.lastNight();
        t.kindsOfRows();
        t.sixtyRows();
        t.emptyLog();
        t.logBounds();
        t.led();
        t.aheadBounds();
        t.aheadIsDry();
        t.ends();
        t.spent();
        t.calm();
        t.trials();
        t.spans();
        t.spanOfSixSeeds();
        t.seeds();
        t.check.close();
    }

    /** SEED as it goes on, told by numbers that do not go round. */
    private static int next(int seed) {
        return (int) Math.floorMod(1103515245L * seed + 12345L, 1L << 32);
    }

    private static int drawn(int seed) {
        long unsigned = Math.floorMod((long) next(seed), 1L << 32);
        return (int) (unsigned / 65536 % 32768 % 100);
    }

    /** The least seed at all whose first draw is this by 100. */
    private static int seedThatDraws(int want) {
        for (int seed = 0; seed < 100000; seed++) {
            if (drawn(seed) == want) {
                return seed;
            }
        }
        throw new AssertionError();
    }

    private static int seedWithSecond(int want) {
        for (int seed = 0; seed < 100000; seed++) {
            if (drawn(next(seed)) == want) {
                return seed;
            }
        }
        throw new AssertionError();
    }

    /** 0 is the target, with this pride and purse; so many others begin. */
    private static String targeted(int pride, int purse, int others) {
        return person(8, 0, pride, purse) + ";" + times(person(8, 1, 9, 50) + " begins", others) + ";wrong 0 5;target 0";
    }

    // ---- promise 16

    private void howManyNights() {
        check.says("So many NIGHTS more (1 to 60)");
        PanNights x = new PanNights();
        bounds("nights(..)", n -> x.nights(n), 1, 60, ARG);
        check.due("61 in all", x.count(3), 61);
        check.due("nights(0)", () -> x.nights(0), ARG);
        check.due("two acts", x.count(14), 2);
        check.due("61 in all still", x.count(3), 61);
    }

    private void howManyCame() {
        check.says("how many came in all of these together.");
        PanNights x = of(targeted(99, 0, 3), null);
        check.due("a night", x.nights(1), 3);
        check.due("two more, then none is the target", x.nights(60), 6);
        check.due("none is the target", x.nights(60), 0);
        PanNights y = of(times(person(0, 0, 99, 0), 8) + ";target 7", null);
        check.due("seven, three times", y.nights(60), 21);
        PanNights z = of(targeted(99, 0, 3) + ";watch 100", null);
        check.due("they came, though fined", z.nights(3), 9);
        PanNights n = of(person(0, 0, 0, 0) + ";target 0", null);
        check.due("nobody else is there", n.nights(3), 0);
        check.due("three rows all the same", n.count(13), 3);
    }

    private void seedGoesRound() {
        check.says("DRAW: SEED is 1103515245 times SEED and 12345, as an int that goes round");
        for (int seed : new int[] {0, 1, 2, -1, 12345, 65536, Integer.MAX_VALUE, Integer.MAX_VALUE - 1, Integer.MIN_VALUE, Integer.MIN_VALUE + 1}) {
            PanNights x = new PanNights();
            x.seed(seed);
            x.nights(1);
            check.due("after " + seed, x.seed(seed), next(seed));
            x.nights(2);
            check.due("two after " + seed, x.seed(0), next(next(seed)));
        }
        PanNights x = new PanNights();
        x.nights(1);
        check.due("after 1", x.seed(0), 1103527590);
        x.nights(1);
        check.due("after 0", x.seed(-1), 12345);
        x.nights(1);
        check.due("after -1", x.seed(Integer.MAX_VALUE), -1103502900);
        x.nights(1);
        check.due("after the greatest", x.seed(Integer.MIN_VALUE), 1043980748);
        x.nights(1);
        check.due("after the least", x.seed(1), -2147471303);
    }

    private void rainByDraws() {
        check.says("(a) WET, if DRAW modulo 100 is below RAIN, else not.");
        for (int d : new int[] {0, 1, 49, 98, 99}) {
            int seed = seedThatDraws(d);
            for (int rain : new int[] {0, d, d + 1, 100}) {
                PanNights x = of("rain " + rain, null);
                x.seed(seed);
                x.nights(1);
                check.due("draw " + d + ", rain " + rain, x.count(4), d < rain ? 1 : 0);
            }
        }
        check.says("bits 16 to 30 (SEED 1 at first)");
        int below = 0;
        for (int seed = 1; seed <= 40; seed++) {
            // the highest bit of SEED is no bit of the draw
            below += next(seed) < 0 ? 1 : 0;
            PanNights x = of("rain 50", null);
            x.seed(seed);
            x.nights(1);
            check.due("wet by seed " + seed, x.count(4), drawn(seed) < 50 ? 1 : 0);
            PanNights dry = of("rain 0", null);
            dry.seed(seed);
            dry.nights(1);
            check.due("never by rain 0", dry.count(4), 0);
        }
        check.due("there are such seeds", below > 5, true);
        PanNights x = of("rain 100", null);
        x.nights(1);
        check.due("wet", x.count(4), 1);
        read(x, "rain 0", false);
        check.due("wet till the next night", x.count(4), 1);
        x.nights(1);
        check.due("else not", x.count(4), 0);
    }

    private void watchByDraws() {
        check.says("(c) If anybody came and DRAW modulo 100 is below WATCH (this DRAW just if anybody came)");
        for (int d : new int[] {0, 1, 50, 99}) {
            int seed = seedWithSecond(d);
            for (int watch : new int[] {0, d, d + 1, 100}) {
                PanNights x = of(targeted(99, 0, 1) + ";watch " + watch, null);
                x.seed(seed);
                x.nights(1);
                check.due("draw " + d + ", watch " + watch, x.log(0, 3), d < watch ? 1 : 3);
            }
        }
    }

    private void drawsOfANight() {
        check.says("(this DRAW just if anybody came)");
        for (String lines : new String[] {"", ";rain 100;watch 100", ";watch 100", ";rain 100"}) {
            PanNights came = of(targeted(99, 0, 1) + lines, null);
            came.nights(1);
            check.due("somebody came: two draws" + lines, came.seed(0), next(next(1)));
            PanNights nobody = of(person(8, 0, 99, 0) + ";" + person(8, 0, 99, 0) + ";target 0" + lines, null);
            nobody.nights(1);
            check.due("nobody came: one draw" + lines, nobody.seed(0), next(1));
            PanNights none = of(person(8, 0, 99, 0) + ";" + person(0, 0, 99, 0) + " begins" + lines, null);
            none.nights(1);
            check.due("no target: one draw" + lines, none.seed(0), next(1));
        }
        PanNights paid = of(targeted(0, 50, 1), null);
        paid.nights(1);
        check.due("bought off: two draws", paid.seed(0), next(next(1)));
    }

    private void wetAtTheCrowd() {
        check.says("(b) With a TARGET: the CROWD to it by all who are BEGINNERS comes.");
        String two = person(0, 0, 99, 0) + ";" + person(0, 0, 99, 0) + ";target 0;rain ";
        check.due("dry: it comes", of(two + "0", "need 1 if wet").nights(1), 1);
        check.due("wet: it does not", of(two + "100", "need 1 if wet").nights(1), 0);
        PanNights x = of(two + "100", "need 1 if not wet");
        check.due("it was dry", x.comes(0), 0);
        check.due("wet by this night", x.nights(1), 1);
    }

    private void fines() {
        check.says("each who came pays FINE, or all of PURSE, if that is less, and all go home.");
        for (int fine : new int[] {0, 1, 30}) {
            PanNights x = of(person(8, 0, 0, 99) + ";" + person(0, 1, 1, 0) + ";" + person(0, 1, 1, 1) + ";" + person(0, 1, 1, 29) + ";"
                + person(0, 1, 1, 30) + ";" + person(0, 1, 1, 31) + ";" + person(8, 1, 1, 31) + ";target 0;watch 100;fine " + fine, null);
            int[] purses = {99, 0, 1, 29, 30, 31, 31};
            int sum = 0;
            for (int p = 1; p <= 5; p++) {
                sum += Math.min(fine, purses[p]);
            }
            check.due("watched by " + fine, x.watched(0), sum);
            check.due("five came", x.nights(1), 5);
            for (int p = 0; p < 7; p++) {
                int want = p == 0 || p == 6 ? purses[p] : Math.max(0, purses[p] - fine);
                check.due("purse of " + p + " by fine " + fine, x.person(p, 3), want);
            }
            check.due("fined", x.log(0, 3), 1);
            check.due("how many came", x.log(0, 2), 5);
        }
    }

    private void finedOnly() {
        check.says("(d) Else, if anybody came");
        PanNights x = of(targeted(0, 50, 2) + ";watch 100;fine 1", null);
        x.nights(1);
        facts(x, 0, 8, 0, 0, 50, 5);
        facts(x, 1, 8, 1, 9, 49);
        check.due("still the target", x.count(5), 0);
        check.due("borne", x.count(6), 1);
        PanNights y = of(targeted(50, 0, 2) + ";watch 100", "pan 30");
        y.nights(1);
        check.due("no pride is lost", y.person(0, 2), 50);
    }

    private void noiseAndPride() {
        check.says("if NOISE is PRIDE of the TARGET at least");
        // two come with 5 pans each: a noise of 10
        for (int pride : new int[] {0, 9, 10, 11, 99}) {
            PanNights x = of(targeted(pride, 50, 2), "pan 4");
            check.due("noise", x.loud(0), 10);
            x.nights(1);
            check.due("pride " + pride, x.log(0, 3), pride <= 10 ? 2 : 3);
            check.due("target by pride " + pride, x.count(5), pride <= 10 ? -1 : 0);
            check.due("pride then", x.person(0, 2), pride <= 10 ? pride : pride - 2);
        }
        PanNights none = of(person(8, 0, 0, 50) + ";" + person(8, 0, 0, 0) + ";target 0;wrong 0 1", null);
        none.nights(1);
        check.due("nobody came: pride 0 is not asked", none.log(0, 3), 0);
        check.due("still the target", none.count(5), 0);
        check.due("its wrong", none.person(0, 4), 1);
    }

    private void purseAndAle() {
        check.says("and its PURSE is ALE for each who came");
        for (int ale : new int[] {0, 1, 7, 20}) {
            for (int more = -1; more <= 1; more++) {
                int purse = 2 * ale + more;
                if (purse >= 0) {
                    PanNights x = of(targeted(1, purse, 2) + ";ale " + ale, null);
                    x.nights(1);
                    check.due("ale " + ale + ", purse " + purse, x.log(0, 3), more >= 0 ? 2 : 3);
                    check.due("purse then", x.person(0, 3), more >= 0 ? more : purse);
                    check.due("wrong then", x.person(0, 4), more >= 0 ? 0 : 5);
                }
            }
        }
    }

    private void thirst() {
        check.says("THIRST of each who came is 1 less (0 at least)");
        PanNights x = of(person(0, 7, 0, 99) + ";" + person(0, 0, 0, 0) + ";" + person(0, 1, 0, 0) + ";" + person(0, 2, 0, 0) + ";" + person(0, 9, 0, 0)
            + ";" + person(8, 9, 0, 0) + ";target 0", null);
        x.nights(1);
        int[] want = {7, 0, 0, 1, 8, 9};
        for (int p = 0; p < want.length; p++) {
            check.due("thirst of " + p, x.person(p, 1), want[p]);
        }
        PanNights last = of(person(0, 5, 0, 0) + ";" + person(0, 6, 0, 99) + ";target 1", null);
        last.nights(1);
        check.due("thirst of the first", last.person(0, 1), 4);
        check.due("thirst of the target", last.person(1, 1), 6);
    }

    private void noiseByFour() {
        check.says("if not so, its PRIDE is NOISE by 4 (rounded down) less (0 at least).");
        for (int noise = 1; noise <= 31; noise++) {
            PanNights x = of(targeted(99, 0, 1), "pan " + (noise - 1));
            x.nights(1);
            check.due("noise " + noise, x.person(0, 2), 99 - noise / 4);
        }
        for (int pride = 0; pride <= 4; pride++) {
            PanNights x = of(targeted(pride, 0, 1), "pan 11");
            x.nights(1);
            check.due("noise 12 by pride " + pride, x.person(0, 2), Math.max(0, pride - 3));
            check.due("borne", x.log(0, 3), 3);
        }
        PanNights loud = of(targeted(99, 0, 7), times("pan 30", 12));
        loud.nights(1);
        check.due("a noise of 2527", loud.person(0, 2), 0);
    }

    private void threeNights() {
        check.says("BORNE is 1 more; with 3 its WRONG is 0, and there is no TARGET any more.");
        String[] villages = {targeted(99, 0, 2), targeted(99, 0, 2) + ";watch 100", person(8, 0, 0, 9) + ";" + person(8, 0, 0, 9) + ";wrong 0 5;target 0"};
        for (String village : villages) {
            PanNights x = of(village, null);
            for (int nights = 1; nights <= 2; nights++) {
                x.nights(1);
                check.due("borne", x.count(6), nights);
                check.due("target", x.count(5), 0);
                check.due("wrong", x.person(0, 4), 5);
            }
            x.nights(1);
            check.due("borne", x.count(6), 0);
            check.due("target", x.count(5), -1);
            check.due("wrong", x.person(0, 4), 0);
            check.due("rows", x.count(13), 3);
            x.nights(1);
            check.due("no fourth row", x.count(13), 3);
        }
    }

    private void borneWithout() {
        check.says("(BORNE is 0 without.)");
        PanNights x = of(targeted(2, 0, 2), null);
        x.nights(2);
        check.due("borne", x.count(6), 2);
        x.give(0, 9);
        x.nights(1);
        check.says("(e) If there is a TARGET yet");
        check.due("bought off in the third night", x.log(0, 3), 2);
        check.due("no target", x.count(5), -1);
        check.due("borne", x.count(6), 0);
        x.nights(5);
        check.due("borne", x.count(6), 0);
        PanNights y = of(targeted(99, 9, 2), null);
        y.nights(2);
        y.buy();
        check.due("borne by buying", y.count(6), 0);
        y.nights(1);
        check.due("no row", y.count(13), 2);
    }

    private void lastNight() {
        check.says("NIGHT is 1 more (9999 at most).");
        PanNights x = of(times(person(8, 0, 0, 0), 2) + ";wrong 0 1;night 999", null);
        for (int i = 0; i < 149; i++) {
            x.nights(60);
        }
        check.due("9939", x.count(3), 9939);
        x.nights(59);
        check.due("9998", x.count(3), 9998);
        x.name(0);
        x.nights(1);
        check.due("9999", x.count(3), 9999);
        x.nights(1);
        check.due("9999 at most", x.count(3), 9999);
        check.due("the row of 9998", x.log(1, 0), 9998);
        check.due("the row of 9999", x.log(0, 0), 9999);
        x.nights(60);
        check.due("9999 still", x.count(3), 9999);
        check.due("the third row, of 9999, too", x.log(0, 0), 9999);
        check.due("the second row", x.log(1, 0), 9999);
        check.due("the night of the latest", x.led(0, true), 9999);
        x.undo();
        x.undo();
        check.due("9999 as ahead of it", x.count(3), 9999);
        x.undo();
        check.due("9998 as ahead of it", x.count(3), 9998);
        read(x, "night 0", false);
        check.due("night 0", x.count(3), 0);
    }

    // ---- the log

    private void kindsOfRows() {
        check.says("NIGHT, the TARGET, how many came, 0 nobody came, 1 fined, 2 bought off, 3 borne.");
        row(of(person(8, 0, 0, 9) + ";" + person(8, 0, 0, 9) + ";target 1;night 7", null), 7, 1, 0, 0);
        row(of(targeted(0, 50, 2) + ";watch 100;night 999", null), 999, 0, 2, 1);
        row(of(targeted(0, 50, 7), null), 0, 0, 7, 2);
        row(of(targeted(99, 50, 1) + ";night 1", null), 1, 0, 1, 3);
    }

    private void row(PanNights x, int... want) {
        x.nights(1);
        for (int what = 0; what < 4; what++) {
            check.due("log(0, " + what + ")", x.log(0, what), want[what]);
            check.due("log(1, " + what + ")", x.log(1, what), -1);
        }
    }

    /** A log of rows by three, of the targets 0 and 1 in turns; nights 0, 1, 2, .. */
    private static PanNights logged(int threes) {
        PanNights x = of(times(person(8, 0, 9, 9), 3), null);
        for (int i = 0; i < threes; i++) {
            x.wrong(i % 2, 1);
            x.name(i % 2);
            x.nights(3);
        }
        return x;
    }

    private void sixtyRows() {
        check.says("THE LOG: the latest 60 NIGHTS with a TARGET at (b)");
        PanNights x = logged(19);
        check.due("57 rows", x.count(13), 57);
        x.wrong(1, 1);
        x.name(1);
        x.nights(2);
        check.due("59 rows", x.count(13), 59);
        check.due("the oldest", x.log(58, 0), 0);
        check.due("none behind it", x.log(59, 0), -1);
        x.nights(1);
        check.due("60 rows", x.count(13), 60);
        check.due("the oldest", x.log(59, 0), 0);
        check.due("none behind it", x.log(60, 0), -1);
        check.due("rows of 0", x.led(0, false), 30);
        check.due("rows of 1", x.led(1, false), 30);
        x.wrong(1, 1);
        x.name(1);
        x.nights(1);
        check.due("60 rows of 61", x.count(13), 60);
        check.due("the latest", x.log(0, 0), 60);
        check.due("the oldest is the second", x.log(59, 0), 1);
        check.due("none behind it", x.log(60, 0), -1);
        check.due("rows of 0", x.led(0, false), 29);
        check.due("rows of 1", x.led(1, false), 31);
        for (int ago = 0; ago < 60; ago++) {
            check.due("night " + ago + " ago", x.log(ago, 0), 60 - ago);
            check.due("target " + ago + " ago", x.log(ago, 1), ago == 0 ? 1 : (60 - ago) / 3 % 2);
        }
        x.undo();
        check.due("the first is there again", x.log(59, 0), 0);
        check.due("its target", x.log(59, 1), 0);
    }

    private void emptyLog() {
        check.says("THE LOG: the latest 60 NIGHTS with a TARGET at (b)");
        PanNights x = of(times(person(0, 0, 0, 9), 2), null);
        x.nights(60);
        check.due("no row without a target", x.count(13), 0);
        check.due("log(0, 0)", x.log(0, 0), -1);
        x.wrong(0, 1);
        x.name(0);
        x.buy();
        check.due("no row by buying", x.count(13), 0);
        x.wrong(0, 1);
        x.name(0);
        x.nights(60);
        check.due("the night in which it is bought off", x.count(13), 1);
        check.due("its night", x.log(0, 0), 60);
    }

    private void logBounds() {
        PanNights x = logged(1);
        check.says("NoSuchElementException: another what.");
        bounds("log(0, ..)", n -> x.log(0, n), 0, 3, NO_SUCH);
        bounds("log(3, ..)", n -> x.log(3, n), 0, 3, NO_SUCH);
        bounds("log(-1, ..)", n -> x.log(-1, n), 0, 3, NO_SUCH);
        check.says("THE LOG so many ago (0 the latest) what 0 NIGHT, 1 the TARGET, 2 how many came, 3 0 to 3; NONE without.");
        check.due("log(0, 0)", x.log(0, 0), 2);
        check.due("log(2, 0)", x.log(2, 0), 0);
        for (int ago : new int[] {3, 59, 60, -1, Integer.MAX_VALUE, Integer.MIN_VALUE}) {
            for (int what = 0; what < 4; what++) {
                check.due("log(" + ago + ", " + what + ")", x.log(ago, what), -1);
            }
        }
    }

    private void led() {
        check.says("LED: how many rows of THE LOG are of a TARGET; the NIGHT of the latest (none).");
        PanNights x = logged(3);
        check.due("rows of 0", x.led(0, false), 6);
        check.due("rows of 1", x.led(1, false), 3);
        check.due("rows of 2", x.led(2, false), 0);
        check.due("night of 0", x.led(0, true), 8);
        check.due("night of 1", x.led(1, true), 5);
        check.due("night of 2", x.led(2, true), -1);
        bounds("led(.., false)", n -> x.led(n, false), 0, 2, OUT);
        bounds("led(.., true)", n -> x.led(n, true), 0, 2, OUT);
        PanNights full = logged(20);
        for (int i = 0; i < 20; i++) {
            full.wrong(2, 1);
            full.name(2);
            full.nights(3);
        }
        check.due("60 rows of 2", full.led(2, false), 60);
        check.due("0 is gone", full.led(0, false), 0);
        check.due("0 is gone", full.led(0, true), -1);
        check.due("the night of 0 is not that of nobody", logged(1).led(0, true), 2);
        PanNights first = of(times(person(8, 0, 9, 9), 2) + ";target 1", null);
        first.nights(1);
        check.due("night 0", first.led(1, true), 0);
    }

    // ---- promises 40 to 42

    private void aheadBounds() {
        PanNights x = of(targeted(99, 9, 2), null);
        check.says("IllegalArgumentException: N is none (0 to 60).");
        bounds("spent(0, ..)", n -> x.spent(0, n), 0, 60, ARG);
        check.says("CALM of N NIGHTS (0 to 60) AHEAD");
        bounds("calm(..)", n -> x.calm(n), 0, 60, ARG);
        PanNights none = of(times(person(0, 0, 0, 9), 2), null);
        bounds("calm(..) without a target", n -> none.calm(n), 0, 60, ARG);
        check.says("IndexOutOfBoundsException: there is no such PERSON.");
        bounds("spent(.., 0)", n -> x.spent(n, 0), 0, 2, OUT);
        check.says("Of several exceptions the one told first is thrown");
        check.due("spent(3, 61)", () -> x.spent(3, 61), OUT);
        check.due("spent(-1, -1)", () -> x.spent(-1, -1), OUT);
        check.says("AHEAD by N NIGHTS (0 to 60)");
        check.due("calm(0)", x.calm(0), 99);
        check.due("spent(0, 0)", x.spent(0, 0), 0);
        check.due("nothing stays", x.count(3), 0);
        check.due("no row", x.count(13), 0);
    }

    private void aheadIsDry() {
        check.says("as so many NIGHTS in which neither rain comes (not WET) nor anybody watches (no DRAWS)");
        PanNights x = of(person(8, 0, 50, 0) + ";" + person(0, 0, 0, 30) + ";target 0;rain 100;watch 100;fine 30", "pan 7;need 1 if wet");
        x.nights(1);
        check.due("wet now: nobody came", x.log(0, 2), 0);
        check.due("pride", x.person(0, 2), 50);
        check.due("dry ahead: 8 by 4", x.calm(1), 48);
        check.due("two nights are left", x.calm(60), 46);
        check.due("nobody pays fines", x.spent(1, 60), 0);
        check.due("no draws", x.seed(1), next(1));
        check.due("still wet now", x.count(4), 1);
        check.due("nobody comes now", x.comes(0), 0);
    }

    private void ends() {
        check.says("ENDS: in how many NIGHTS (1 to 60) AHEAD there is no TARGET; none (also without).");
        PanNights x = of(targeted(99, 9, 2), null);
        check.due("three", x.ends(), 3);
        x.nights(1);
        check.due("two", x.ends(), 2);
        x.nights(1);
        check.due("one", x.ends(), 1);
        x.nights(1);
        check.due("without", x.ends(), -1);
        PanNights paid = of(targeted(2, 4, 2), null);
        check.due("bought off in the first", paid.ends(), 1);
        // a noise of 10 is 2 less by night: 12, 10, paid in the second
        PanNights later = of(targeted(12, 4, 2), "pan 4");
        check.due("bought off in the second", later.ends(), 2);
        check.due("nothing stays", later.count(5), 0);
        check.due("though it would be fined", of(targeted(2, 4, 2) + ";watch 100", null).ends(), 1);
        check.due("though it would rain", of(person(8, 0, 1, 2) + ";" + person(0, 0, 0, 0) + ";target 0;rain 100", "need 1 if wet").ends(), 1);
        check.due("nobody comes: three", of(times(person(8, 0, 0, 9), 2) + ";target 0", null).ends(), 3);
    }

    private void spent() {
        check.says("SPENT of a PERSON by N NIGHTS AHEAD: by how much PURSE is less.");
        PanNights x = of(targeted(12, 9, 2) + ";watch 100", "pan 4");
        check.due("spent(0, 0)", x.spent(0, 0), 0);
        check.due("spent(0, 1)", x.spent(0, 1), 0);
        check.due("spent(0, 2)", x.spent(0, 2), 4);
        check.due("spent(0, 60)", x.spent(0, 60), 4);
        check.due("spent(1, 60)", x.spent(1, 60), 0);
        check.due("the purse stays", x.person(0, 3), 9);
    }

    private void calm() {
        check.says("CALM (0 without a TARGET).");
        PanNights x = of(times(person(0, 0, 50, 9), 2), null);
        check.due("calm(0)", x.calm(0), 0);
        check.due("calm(60)", x.calm(60), 0);
        check.says("CALM of N NIGHTS (0 to 60) AHEAD: PRIDE of the TARGET of now then.");
        PanNights y = of(targeted(9, 0, 2), "pan 5");
        // a noise of 12 is 3 less by night, for three nights
        int[] want = {9, 6, 3, 0, 0};
        for (int n = 0; n < want.length; n++) {
            check.due("calm(" + n + ")", y.calm(n), want[n]);
        }
        check.due("calm(60), long after it was the target", y.calm(60), 0);
        check.due("calm(60) of more pride", of(targeted(50, 0, 2), "pan 5").calm(60), 41);
    }

    // ---- promises 44, 45, 48

    private void trials() {
        PanNights x = of(targeted(2, 50, 2) + ";ale 5", null);
        check.says("TRIAL of N NIGHTS (0 to 60) from now (draws, too; nothing stays)");
        bounds("trial(.., false)", n -> x.trial(n, false), 0, 60, ARG);
        bounds("trial(.., true)", n -> x.trial(n, true), 0, 60, ARG);
        check.due("trial(0): purses of now", x.trial(0, false), 150);
        check.due("trial(1)", x.trial(1, false), 140);
        check.due("trial(60)", x.trial(60, false), 140);
        check.due("trial(0): the target of now", x.trial(0, true), 0);
        check.due("trial(1): none", x.trial(1, true), -1);
        check.due("nothing stays", x.count(12), 150);
        check.due("no night", x.count(3), 0);
        check.due("no draw", x.seed(1), 1);
        check.due("no act", x.count(14), 0);
        PanNights fined = of(targeted(99, 50, 2) + ";watch 100;fine 7", null);
        check.due("draws, too", fined.trial(2, false), 150 - 28);
        check.due("a third", fined.trial(3, false), 150 - 42);
        check.due("and no more", fined.trial(60, false), 150 - 42);
        check.due("the target", fined.trial(2, true), 0);
        check.due("the target", fined.trial(3, true), -1);
        check.due("not wet by a trial", fined.count(4), 0);
    }

    private void spans() {
        PanNights x = of(targeted(99, 50, 2) + ";watch 100;fine 7", null);
        check.says("SPAN: the least (most false), or the greatest. IllegalArgumentException: N is none.");
        bounds("span(.., false)", n -> x.span(n, false), 0, 60, ARG);
        bounds("span(.., true)", n -> x.span(n, true), 0, 60, ARG);
        check.due("span(0)", x.span(0, false), 150);
        check.due("span(0)", x.span(0, true), 150);
        check.due("span(1)", x.span(1, false), 136);
        check.due("span(60)", x.span(60, true), 108);
        check.due("nothing stays", x.count(12), 150);
        check.due("no draw", x.seed(1), 1);
        check.due("no act", x.count(14), 0);
    }

    /** Seeds 1 and 6 count, 0 and 7 do not: rain and watches are looked for by which that is seen. */
    private void spanOfSixSeeds() {
        check.says("SPAN: the least and the greatest PURSES of all so from SEED 1, 2, .. 6.");
        boolean[] seen = new boolean[8];
        for (int chance = 0; chance < 2 * 4 * 21 * 21; chance++) {
            int nights = 1 + chance / 2 % 4;
            int watch = chance / 8 % 21 * 5;
            int rain = chance / 168 * 5;
            PanNights x = of(person(8, 0, 6, 40) + ";" + person(0, 0, 9, 50) + ";" + person(0, 0, 9, 3) + ";target 0;ale 9;fine 15;watch " + watch
                + ";rain " + rain, chance % 2 == 0 ? "pan 3 if wet" : "pan 3 if not wet");
            int[] sums = new int[8];
            for (int seed = 0; seed <= 7; seed++) {
                x.seed(seed);
                sums[seed] = x.trial(nights, false);
            }
            check.due("least by chance " + chance, x.span(nights, false), least(sums, 1, 6));
            check.due("most by chance " + chance, x.span(nights, true), most(sums, 1, 6));
            seen[0] |= least(sums, 1, 6) != least(sums, 0, 6);
            seen[1] |= least(sums, 1, 6) != least(sums, 2, 6);
            seen[2] |= least(sums, 1, 6) != least(sums, 1, 5);
            seen[3] |= least(sums, 1, 6) != least(sums, 1, 7);
            seen[4] |= most(sums, 1, 6) != most(sums, 0, 6);
            seen[5] |= most(sums, 1, 6) != most(sums, 2, 6);
            seen[6] |= most(sums, 1, 6) != most(sums, 1, 5);
            seen[7] |= most(sums, 1, 6) != most(sums, 1, 7);
        }
        for (int i = 0; i < seen.length; i++) {
            check.due("a chance by which one seed less or more is seen, " + i, seen[i], true);
        }
    }

    private static int least(int[] sums, int from, int to) {
        int found = sums[from];
        for (int i = from; i <= to; i++) {
            found = Math.min(found, sums[i]);
        }
        return found;
    }

    private static int most(int[] sums, int from, int to) {
        int found = sums[from];
        for (int i = from; i <= to; i++) {
            found = Math.max(found, sums[i]);
        }
        return found;
    }

    private void seeds() {
        check.says("`int seed(int n)`: SEED: what it was.");
        PanNights x = new PanNights();
        int was = 1;
        for (int n : new int[] {0, -1, Integer.MAX_VALUE, Integer.MIN_VALUE, 1, 1}) {
            check.due("seed(" + n + ")", x.seed(n), was);
            was = n;
        }
        check.due("no act", x.count(14), 0);
        check.due("nothing to undo", x.undo(), false);
    }
}
