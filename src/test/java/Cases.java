/** What the tests by hand share: villages and laws in a word, and the names of what is thrown. */
abstract class Cases {
    static final String OUT = "throws.IndexOutOfBoundsException";
    static final String ARG = "throws.IllegalArgumentException";
    static final String STATE = "throws.IllegalStateException";
    static final String NO_SUCH = "throws.NoSuchElementException";
    static final String UNSUPPORTED = "throws.UnsupportedOperationException";
    static final int[] FAR = {-1, 99, Integer.MIN_VALUE, Integer.MAX_VALUE};

    /** A call with one number that has bounds. */
    interface OfNumber {
        Object make(int n);
    }

    final Check check;

    Cases(String test) {
        check = new Check(test);
    }

    static PanNights of(String village, String law) {
        PanNights x = new PanNights();
        must(read(x, village, false), village);
        if (law != null) {
            must(read(x, law, true), law);
        }
        return x;
    }

    private static void must(String answer, String text) {
        if (answer.startsWith("throws.")) {
            throw new AssertionError("not a right text: " + text);
        }
    }

    static String read(PanNights x, String text, boolean law) {
        tape(x, text);
        return Check.answer(() -> law ? x.law() : x.village());
    }

    /** The tape has this text then, and nothing else. */
    static void tape(PanNights x, String text) {
        x.end(0);
        int[] n = numbers(text);
        for (int i = 0; i < n.length; i += 5) {
            x.feed(n[i], n[i + 1], n[i + 2], n[i + 3], n[i + 4]);
        }
        x.end(text.length());
    }

    /** The numbers of the feeds that bring a text, filled up with zeros. */
    static int[] numbers(String text) {
        int[] numbers = new int[(text.length() + 19) / 20 * 5];
        for (int i = 0; i < text.length(); i++) {
            numbers[i / 4] |= (text.charAt(i) & 255) << 24 - i % 4 * 8;
        }
        return numbers;
    }

    static String bytes(int... bytes) {
        StringBuilder s = new StringBuilder();
        for (int b : bytes) {
            s.append((char) b);
        }
        return s.toString();
    }

    /** So many lines of the same words. */
    static String times(String line, int n) {
        StringBuilder s = new StringBuilder();
        for (int i = 0; i < n; i++) {
            s.append(i == 0 ? "" : ";").append(line);
        }
        return s.toString();
    }

    static String person(int needs, int thirst, int pride, int purse) {
        return "person needs " + needs + " thirst " + thirst + " pride " + pride + " purse " + purse;
    }

    void facts(PanNights x, int person, int... want) {
        for (int what = 0; what < want.length; what++) {
            check.due("person(" + person + ", " + what + ")", x.person(person, what), want[what]);
        }
    }

    void counts(PanNights x, int... want) {
        for (int what = 0; what < want.length; what++) {
            check.due("count(" + what + ")", x.count(what), want[what]);
        }
    }

    /** The last number that is allowed and the first that is not, on both sides, and the farthest. */
    void bounds(String call, OfNumber of, int least, int most, String refused) {
        for (int n : new int[] {least, most}) {
            check.due(call + " with " + n + " is allowed", Check.answer(() -> of.make(n)).startsWith("throws."), false);
        }
        for (int n : new int[] {least - 1, most + 1, Integer.MIN_VALUE, Integer.MAX_VALUE}) {
            check.due(call + " with " + n, () -> of.make(n), refused);
        }
    }

    /** A right text (the fault is -1 then), or a wrong one with its first wrong byte. */
    void fault(PanNights x, boolean law, String text, int want) {
        String kind = law ? "law " : "village ";
        check.due(kind + text + " is wrong", read(x, text, law).equals(ARG), want != -1);
        check.due("fault of " + kind + text, x.fault(), want);
    }
}
