import java.lang.reflect.InvocationTargetException;
import java.lang.reflect.Method;
import java.lang.reflect.Modifier;
import java.nio.file.Files;
import java.nio.file.Path;
import java.util.HashMap;
import java.util.List;
import java.util.Map;
import java.util.regex.Matcher;
import java.util.regex.Pattern;

/** The examples of README.md answer what they tell, and each call of the face is named; run from the top folder of the project. */
public final class ReadmeTest {
    private static final Check CHECK = new Check("ReadmeTest");
    private static final Pattern MADE = Pattern.compile("PanNights x = new PanNights\\(\\);");
    private static final Pattern TAPE = Pattern.compile("tape\\(x, \"([^\"]*)\"\\);");
    private static final Pattern CALL = Pattern.compile("x\\.(\\w+)\\(([^)]*)\\);(?: +// (-?[\\w.]+)(?:: .*)?)?");

    private final Map<String, Method> face = new HashMap<>();
    private PanNights x;

    private ReadmeTest() {
        for (Method m : PanNights.class.getDeclaredMethods()) {
            if (Modifier.isPublic(m.getModifiers())) {
                face.put(m.getName(), m);
            }
        }
    }

    public static void main(String[] args) throws Exception {
        String page = Files.readString(Path.of("README.md"));
        ReadmeTest test = new ReadmeTest();
        test.playExamples(page.lines().toList());
        test.lookForNames(page);
        CHECK.due("the command is told", page.contains("`.ci/run`"), true);
        CHECK.close();
    }

    private void playExamples(List<String> lines) throws Exception {
        boolean inside = false;
        int examples = 0;
        for (String line : lines) {
            if (line.startsWith("```")) {
                inside = line.equals("```java");
                examples += inside ? 1 : 0;
            } else if (inside) {
                play(line);
            }
        }
        CHECK.due("there are examples", examples >= 5, true);
    }

    private void play(String line) throws Exception {
        Matcher tape = TAPE.matcher(line);
        Matcher call = CALL.matcher(line);
        if (MADE.matcher(line).matches()) {
            x = new PanNights();
        } else if (tape.matches()) {
            Cases.tape(x, tape.group(1));
        } else if (call.matches() && face.containsKey(call.group(1))) {
            Object got = answer(face.get(call.group(1)), call.group(2));
            CHECK.due(line, got, call.group(3) == null ? got : call.group(3));
        } else {
            CHECK.due("a line that can be played", line, "one of the three kinds");
        }
    }

    private Object answer(Method method, String told) throws Exception {
        Class<?>[] types = method.getParameterTypes();
        String[] words = told.isEmpty() ? new String[0] : told.split(", ");
        Object[] values = new Object[types.length];
        for (int i = 0; i < types.length; i++) {
            values[i] = types[i] == int.class ? (Object) Integer.decode(words[i]) : (Object) Boolean.valueOf(words[i]);
        }
        try {
            return method.invoke(x, values);
        } catch (InvocationTargetException e) {
            return "throws." + e.getCause().getClass().getSimpleName();
        }
    }

    private void lookForNames(String page) {
        for (String name : face.keySet()) {
            CHECK.due(name + " is named", Pattern.compile("`" + name + "(\\(|`)").matcher(page).find(), true);
        }
    }
}
