/** Counts what is not as due, and feeds texts. */
final class Check {
    /** A call that may throw. */
    interface Call {
        Object make();
    }

    private final String test;
    private int asked = 0;
    private int wrong = 0;

    Check(String test) {
        this.test = test;
    }

    /** A value, or throws.IllegalStateException and its like, told by the very class. */
    static String answer(Call call) {
        try {
            return String.valueOf(call.make());
        } catch (RuntimeException e) {
            return "throws." + e.getClass().getSimpleName();
        }
    }

    void due(String what, Object got, Object want) {
        asked++;
        if (!String.valueOf(got).equals(String.valueOf(want))) {
            wrong++;
            if (wrong <= 50) {
                System.out.println(test + ": " + what + " answered " + got + ", due is " + want);
            }
        }
    }

    void due(String what, Call call, Object want) {
        due(what, (Object) answer(call), want);
    }

    boolean isRight() {
        return wrong == 0;
    }

    void close() {
        System.out.println(test + ": " + asked + " answers, " + wrong + " not as due");
        if (wrong != 0 || asked == 0) {
            System.exit(1);
        }
    }

    /** The numbers of the feeds that bring a text, filled up with zeros. */
    static int[] numbers(String text) {
        int[] numbers = new int[(text.length() + 19) / 20 * 5];
        for (int i = 0; i < text.length(); i++) {
            numbers[i / 4] |= (text.charAt(i) & 255) << 24 - i % 4 * 8;
        }
        return numbers;
    }

    /** The tape has this text then, and nothing else. */
    static void tape(PanNights x, String text) {
        x.end(0);
        int[] n = numbers(text);
        for (int i = 0; i < n.length; i += 5) {
            x.feed(n[i], n[i + 1], n[i + 2], n[i + 3], n[i + 4]);
        }
        x.end(text.length());
    }
}
