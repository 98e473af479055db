import java.nio.file.Files;
import java.nio.file.Path;
import java.util.LinkedHashMap;
import java.util.Map;

/** Counts what is not as due, by the sentences of the document that it is due by. */
final class Check {
    /** A call that may throw. */
    interface Call {
        Object make();
    }

    private static final Path DOCUMENT = Path.of("../shared/DOC.md");

    private final String test;
    private final Map<String, Integer> sentences = new LinkedHashMap<>();
    private String sentence = "";
    private int asked = 0;
    private int wrong = 0;

    Check(String test) {
        this.test = test;
    }

    /** A value, or throws.IllegalStateException and its like, told by the very class. */
    static String answer(Call call) {
        try {
            return String.valueOf(call.make());
        } catch (RuntimeException e) {
            return "throws." + e.getClass().getSimpleName();
        }
    }

    /** The words of the document by which the next answers are due. */
    void says(String words) {
        sentence = words;
        sentences.putIfAbsent(words, 0);
    }

    void due(String what, Object got, Object want) {
        asked++;
        sentences.computeIfPresent(sentence, (words, n) -> n + 1);
        if (!String.valueOf(got).equals(String.valueOf(want))) {
            wrong++;
            if (wrong <= 50) {
                System.out.println(test + ": " + what + " answered " + got + ", due is " + want + (sentence.isEmpty() ? "" : " by: " + sentence));
            }
        }
    }

    void due(String what, Call call, Object want) {
        due(what, (Object) answer(call), want);
    }

    boolean isRight() {
        return wrong == 0;
    }

    void close() {
        lookAtSentences();
        System.out.println(test + ": " + asked + " answers" + (sentences.isEmpty() ? "" : " by " + sentences.size() + " sentences")
            + ", " + wrong + " not as due");
        if (wrong != 0 || asked == 0) {
            System.exit(1);
        }
    }

    /** Each sentence stands in the document as it is told here, and something was asked by it. */
    private void lookAtSentences() {
        sentence = "";
        if (sentences.isEmpty() || !Files.exists(DOCUMENT)) {
            return;
        }
        String document = plain(documentText());
        for (Map.Entry<String, Integer> s : new LinkedHashMap<>(sentences).entrySet()) {
            due("the document says: " + s.getKey(), document.contains(plain(s.getKey())), true);
            due("something is asked by: " + s.getKey(), s.getValue() > 0, true);
        }
    }

    private static String documentText() {
        try {
            return Files.readString(DOCUMENT);
        } catch (java.io.IOException e) {
            throw new AssertionError(e);
        }
    }

    private static String plain(String text) {
        return text.replaceAll("\\s+", " ");
    }
}
