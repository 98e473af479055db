import java.lang.reflect.InvocationTargetException;
import java.lang.reflect.Method;
import java.util.ArrayList;
import java.util.List;
import java.util.Random;

/** Runs of drawn calls (the seeds are fixed) on PanNights and on Model: all answers and exceptions are the same. */
public final class ModelTest {
    private static final int RUNS = 3000;
    private static final int CALLS = 400;
    private static final int[] NUMBERS = {-2, -1, 0, 1, 2, 3, 4, 5, 6, 7, 8, 9, 10, 14, 15, 20, 21, 40, 59, 60, 61, 998, 999, 1000,
        9999, Integer.MIN_VALUE, Integer.MAX_VALUE};

    private final Check check = new Check("ModelTest");
    private final List<Method> methods = new ArrayList<>();
    private Random random;
    private PanNights real;
    private Model model;
    private List<String> story;

    public static void main(String[] args) throws Exception {
        new ModelTest().run();
    }

    private void run() throws Exception {
        for (Method m : PanNights.class.getDeclaredMethods()) {
            if (java.lang.reflect.Modifier.isPublic(m.getModifiers())) {
                methods.add(m);
            }
        }
        // getDeclaredMethods has no order of its own, and the runs are to be the same each time
        methods.sort((a, b) -> a.getName().compareTo(b.getName()));
        for (int run = 0; run < RUNS && check.isRight(); run++) {
            random = new Random(run);
            real = new PanNights();
            model = new Model();
            story = new ArrayList<>();
            playRun();
            if (!check.isRight()) {
                System.out.println("run " + run + ": " + story);
            }
        }
        check.close();
    }

    private void playRun() throws Exception {
        if (random.nextInt(10) != 0) {
            text(firstVillage(), "village");
        }
        if (random.nextInt(3) != 0) {
            text(someLaw(), "law");
        }
        for (int i = 0; i < CALLS && check.isRight(); i++) {
            int kind = random.nextInt(100);
            if (kind < 2) {
                text(spoiled(firstVillage()), "village");
            } else if (kind < 3) {
                text(spoiled(someVillage()), "village");
            } else if (kind < 6) {
                text(spoiled(someLaw()), "law");
            } else if (kind < 14) {
                text(somePairs(), random.nextBoolean() ? "heard" : "ask");
            } else if (kind < 30) {
                act();
            } else {
                both(methods.get(random.nextInt(methods.size())));
            }
        }
        lookAtAll();
    }

    /** What fills the log, and what takes it back. */
    private void act() throws Exception {
        int person = random.nextInt(Math.max(1, model.count(0)));
        switch (random.nextInt(8)) {
            case 0: both(method("undo")); break;
            case 1: both(method("image")); break;
            case 2: both(method("back")); break;
            default:
                both(method("wrong"), person, 1 + random.nextInt(9));
                both(method("name"), person);
                both(method("nights"), 1 + random.nextInt(4));
        }
    }

    private void lookAtAll() throws Exception {
        for (int what = -1; what <= 15; what++) {
            both(method("count"), what);
        }
        for (int p = 0; p < 8; p++) {
            for (int what = 0; what < 8; what++) {
                both(method("person"), p, what);
            }
        }
        for (int ago = 0; ago < 61; ago++) {
            for (int what = 0; what < 4; what++) {
                both(method("log"), ago, what);
            }
        }
        both(method("fault"));
        both(method("seed"), 1);
    }

    private Method method(String name) {
        for (Method m : methods) {
            if (m.getName().equals(name)) {
                return m;
            }
        }
        throw new AssertionError(name);
    }

    private void text(String text, String reader) throws Exception {
        both(method("end"), 0);
        int[] n = Cases.numbers(text);
        for (int i = 0; i < n.length; i += 5) {
            both(method("feed"), n[i], n[i + 1], n[i + 2], n[i + 3], n[i + 4]);
        }
        both(method("end"), text.length());
        both(method(reader));
        both(method("fault"));
    }

    private void both(Method m, Object... given) throws Exception {
        Class<?>[] types = m.getParameterTypes();
        Object[] args = given.length == types.length && types.length > 0 ? given : new Object[types.length];
        for (int i = 0; i < types.length; i++) {
            if (args[i] == null) {
                args[i] = types[i] == boolean.class ? (Object) random.nextBoolean() : (Object) number();
            }
        }
        String call = m.getName() + java.util.Arrays.toString(args);
        String want = answer(Model.class.getMethod(m.getName(), types), model, args);
        String got = answer(m, real, args);
        story.add(call + " " + got);
        check.due(call, got, want);
    }

    private static String answer(Method m, Object on, Object[] args) throws Exception {
        try {
            return String.valueOf(m.invoke(on, args));
        } catch (InvocationTargetException e) {
            return "throws." + e.getCause().getClass().getSimpleName();
        }
    }

    private int number() {
        int kind = random.nextInt(10);
        return kind < 7 ? random.nextInt(8) : kind < 9 ? random.nextInt(20) : NUMBERS[random.nextInt(NUMBERS.length)];
    }

    // ---- texts

    private String firstVillage() {
        StringBuilder s = new StringBuilder();
        int people = 1 + random.nextInt(8);
        for (int i = 0; i < people; i++) {
            s.append(i == 0 ? "" : ";").append(personLine());
        }
        for (int i = random.nextInt(7); i > 0; i--) {
            s.append(';').append(otherLine(people));
        }
        return s.length() > 400 ? s.substring(0, 400) : s.toString();
    }

    private String someVillage() {
        StringBuilder s = new StringBuilder();
        int lines = random.nextInt(16);
        for (int i = 0; i < lines; i++) {
            s.append(i == 0 ? "" : blank() + ";" + blank()).append(random.nextInt(6) == 0 ? personLine() : otherLine(8));
        }
        return s.length() > 400 ? s.substring(0, 400) : s.toString();
    }

    private String personLine() {
        return "person needs " + random.nextInt(random.nextInt(5) == 0 ? 10 : 4) + " thirst" + blank() + random.nextInt(10)
            + " pride " + random.nextInt(random.nextInt(4) == 0 ? 101 : 12) + " purse " + random.nextInt(random.nextInt(3) == 0 ? 1000 : 40)
            + (random.nextInt(4) == 0 ? " strange" : "") + (random.nextInt(3) == 0 ? " begins" : "");
    }

    private String otherLine(int people) {
        switch (random.nextInt(9)) {
            case 0: return "wrong " + random.nextInt(people) + " " + random.nextInt(10);
            case 1: return "feud " + random.nextInt(people) + " with " + random.nextInt(people);
            case 2: return "target " + random.nextInt(people);
            case 3: return "rain " + random.nextInt(102);
            case 4: return "watch " + random.nextInt(102);
            case 5: return "fine " + random.nextInt(32);
            case 6: return "ale " + random.nextInt(22);
            case 7: return "night " + random.nextInt(1001);
            default: return "wrong " + random.nextInt(people) + " " + (1 + random.nextInt(9));
        }
    }

    private String someLaw() {
        StringBuilder s = new StringBuilder();
        int lines = random.nextInt(random.nextInt(8) == 0 ? 14 : 5);
        for (int i = 0; i < lines; i++) {
            s.append(i == 0 ? "" : blank() + ";" + blank());
            s.append(new String[] {"need ", "spare ", "pan "}[random.nextInt(3)]).append(random.nextInt(random.nextInt(6) == 0 ? 32 : 4));
            if (random.nextInt(4) != 0) {
                s.append(" if ").append(condition(0));
            }
        }
        return s.length() > 400 ? s.substring(0, 400) : s.toString();
    }

    private String condition(int deep) {
        StringBuilder s = new StringBuilder(atom(deep));
        for (int i = random.nextInt(3); i > 0; i--) {
            s.append(random.nextBoolean() ? " or " : " and ").append(atom(deep));
        }
        return s.toString();
    }

    private String atom(int deep) {
        switch (random.nextInt(deep > 7 ? 6 : 8)) {
            case 0: return "feud";
            case 1: return "strange";
            case 2: return "wet";
            case 6: return "not " + atom(deep + 1);
            case 7: return "(" + blank() + condition(deep + 1) + blank() + ")";
            default: return sum() + (random.nextBoolean() ? "<" : " > ") + sum();
        }
    }

    private String sum() {
        String[] parts = {"who", "thirst", "threshold", "wrong", "purse", "borne", "night"};
        StringBuilder s = new StringBuilder();
        for (int i = random.nextInt(3); i >= 0; i--) {
            s.append(random.nextInt(3) == 0 ? "" + random.nextInt(random.nextInt(9) == 0 ? 1001 : 9) : parts[random.nextInt(parts.length)]);
            s.append(i == 0 ? "" : blank() + "+" + blank());
        }
        return s.toString();
    }

    private String blank() {
        return random.nextInt(4) == 0 ? " " : random.nextInt(9) == 0 ? "  " : "";
    }

    private String spoiled(String text) {
        StringBuilder s = new StringBuilder(text);
        if (random.nextInt(3) == 0 && s.length() > 0) {
            int at = random.nextInt(s.length());
            switch (random.nextInt(5)) {
                case 0: s.deleteCharAt(at); break;
                case 1: s.setLength(at); break;
                case 2: s.setCharAt(at, (char) random.nextInt(256)); break;
                case 3: s.setCharAt(at, " ;()<>+0129az".charAt(random.nextInt(13))); break;
                default: s.insert(at, " ;()<>+0129az".charAt(random.nextInt(13)));
            }
        }
        return s.length() > 400 ? s.substring(0, 400) : s.toString();
    }

    private String somePairs() {
        StringBuilder s = new StringBuilder();
        int pairs = random.nextInt(30) == 0 ? 21 : random.nextInt(4);
        for (int i = 0; i < pairs; i++) {
            // mostly people that there are, and none of them twice
            int people = Math.max(2, model.count(0) + (random.nextInt(20) == 0 ? 1 : 0));
            int first = random.nextInt(people);
            int second = random.nextInt(people);
            s.append((char) first).append((char) (second == first ? (first + 1) % people : second));
        }
        if (random.nextInt(30) == 0) {
            s.append((char) random.nextInt(256));
        }
        return s.toString();
    }
}
