import java.nio.file.Files;
import java.nio.file.Path;
import java.util.List;
import java.util.regex.Matcher;
import java.util.regex.Pattern;

/** What of LANGUAGE.md can be seen in the text of the class; run from the top folder of the project. */
public final class LanguageTest {
    private static final Check CHECK = new Check("LanguageTest");
    private static final String[] BANNED = {"->", "::", "@", "\\btry\\b", "\\bcatch\\b", "\\bfinally\\b", "\\bsynchronized\\b", "\\bassert\\b",
        "\\bstatic \\{", "\\bprotected\\b", "\\bvar\\b", "\\bpackage\\b", "\\brecord\\b", "\\binstanceof\\b", "String\\.format", "System\\.(?!arraycopy\\b)",
        "Math\\.\\w+Exact", "\"\\s*\\+", "\\+\\s*\"", "\\bwhile \\(true\\)", "for \\(;", "\\bstatic (?!final\\b)(int|long|boolean|char|String)(\\[\\])? \\w+( =|;)"};

    public static void main(String[] args) throws Exception {
        String source = Files.readString(Path.of("src/main/java/PanNights.java"));
        String code = source.replaceAll("(?s)/\\*.*?\\*/", "").replaceAll("//[^\n]*", "");
        for (String banned : BANNED) {
            Matcher m = Pattern.compile(banned).matcher(code);
            CHECK.due("no " + banned, m.find() ? m.group() : "none", "none");
        }
        CHECK.due("signs of 1 to 127 alone", source.chars().allMatch(c -> c == '\n' || c >= 32 && c < 127), true);
        imports(code);
        classes(code);
        methods(code);
        thrown(code);
        made(code);
        CHECK.close();
    }

    private static void imports(String code) {
        Matcher m = Pattern.compile("import ([\\w.]+);").matcher(code);
        while (m.find()) {
            CHECK.due("import", List.of("java.util.Arrays", "java.util.NoSuchElementException").contains(m.group(1)), true);
        }
    }

    private static void classes(String code) {
        Matcher m = Pattern.compile("\\bclass \\w+").matcher(code);
        int n = 0;
        while (m.find()) {
            n++;
        }
        CHECK.due("some twelve classes", n <= 12, true);
    }

    /** At most seven parameters and some sixty lines each. */
    private static void methods(String code) {
        Matcher m = Pattern.compile("(?m)^( {4}| {8})(public |private |abstract |static )*[\\w\\[\\]]+ (\\w+)\\(([^)]*)\\)[^;{]*\\{").matcher(code);
        int n = 0;
        while (m.find()) {
            n++;
            CHECK.due("parameters of " + m.group(3), m.group(4).split(",").length <= 7, true);
            int end = code.indexOf("\n" + m.group(1) + "}", m.end());
            CHECK.due("lines of " + m.group(3), code.substring(m.start(), end).split("\n").length <= 60, true);
        }
        CHECK.due("methods are found", n > 100, true);
    }

    private static void thrown(String code) {
        Matcher m = Pattern.compile("\\bthrow\\b[^;]*;").matcher(code);
        while (m.find()) {
            CHECK.due(m.group(), m.group().matches("throw new (IllegalState|IllegalArgument|IndexOutOfBounds|UnsupportedOperation|NoSuchElement)"
                + "Exception\\((\"[^\"]*\")?\\);"), true);
        }
    }

    /** Objects and arrays come from constructors and the fields' own beginnings alone. */
    private static void made(String code) {
        for (String line : code.split("\n")) {
            if (line.contains(" new ") && !line.contains("throw new")) {
                CHECK.due(line.trim(), line.matches("(        private final int\\[] \\w+ = new int\\[.*];|        \\w+ = new \\w+[(\\[].*;"
                    + "|        private final Village\\[] states = new Village\\[MOST_ACTS];|                states\\[i] = new Village\\(\\);)"), true);
            }
        }
    }
}
