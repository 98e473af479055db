import java.lang.reflect.Constructor;
import java.lang.reflect.Field;
import java.lang.reflect.Member;
import java.lang.reflect.Method;
import java.lang.reflect.Modifier;
import java.util.Arrays;
import java.util.TreeSet;

/** The public face is the document's, each member with its exceptions, and there is no other member that is not private. */
public final class FaceTest {
    private static final String OUT = " IndexOutOfBoundsException";
    private static final String ARG = " IllegalArgumentException";
    private static final String STATE = " IllegalStateException";
    private static final String NO_SUCH = " NoSuchElementException";
    private static final String[] FACE = {
        "int feed(int, int, int, int, int)", "boolean end(int)", "int village()" + ARG + " UnsupportedOperationException", "int law()" + ARG,
        "int fault()", "int person(int, int)" + OUT + NO_SUCH, "int against(int, int, boolean)" + OUT + ARG, "int name(int)" + OUT + STATE,
        "boolean begin(int, boolean)" + OUT, "int buy()" + STATE, "int feud(int, int)" + OUT + ARG, "int teach(int, int)" + OUT + ARG,
        "int wrong(int, int)" + OUT + ARG, "int give(int, int)" + OUT + ARG, "int nights(int)" + ARG, "int comes(int)" + OUT,
        "int rounds(int)" + OUT, "int when(int, int)" + OUT + ARG, "int loud(int)" + OUT, "int fewest(int, int)" + OUT + ARG,
        "int keep(int)" + OUT, "int tips(int)" + OUT, "int price(int)" + OUT, "boolean can(int)" + OUT, "int dearest()", "int brings(int)" + ARG,
        "int best()", "int rests(int)" + OUT, "int heard(int, boolean)" + OUT + ARG, "int ask(int)" + OUT + ARG, "int feuded(int)" + OUT,
        "int feuds()", "boolean ring(int)" + OUT, "int hated()", "int watched(int)" + OUT, "int ripest()", "int brave(int)" + OUT, "int alike()",
        "int ends()", "int spent(int, int)" + OUT + ARG, "int calm(int)" + ARG, "int share(int, int)" + OUT + ARG, "int trial(int, boolean)" + ARG,
        "int span(int, boolean)" + ARG, "int led(int, boolean)" + OUT, "int log(int, int)" + NO_SUCH, "int seed(int)", "boolean undo()",
        "void image()", "boolean back()", "int count(int)"};

    private static final Check CHECK = new Check("FaceTest");

    public static void main(String[] args) throws Exception {
        Class<?> c = PanNights.class;
        CHECK.due("the class", Modifier.toString(c.getModifiers()), "public final");
        CHECK.due("the face", face(c), new TreeSet<>(Arrays.asList(FACE)));
        CHECK.due("how many methods", FACE.length, 51);
        CHECK.due("NONE", Modifier.toString(c.getField("NONE").getModifiers()) + " " + c.getField("NONE").getInt(null), "public static final -1");
        CHECK.due("constructors", c.getDeclaredConstructors().length, 1);
        Constructor<?> made = c.getDeclaredConstructors()[0];
        CHECK.due("the constructor", made.toString(), "public PanNights()");
        for (Field f : c.getDeclaredFields()) {
            CHECK.due("field " + f.getName(), isHidden(f) || f.getName().equals("NONE"), true);
            if (Modifier.isStatic(f.getModifiers())) {
                CHECK.due("static field " + f.getName() + " is final", Modifier.isFinal(f.getModifiers()), true);
            }
        }
        TreeSet<String> names = new TreeSet<>();
        for (Method m : c.getMethods()) {
            names.add(m.getName());
        }
        for (Method m : c.getDeclaredMethods()) {
            CHECK.due("method " + m.getName(), isHidden(m) && !names.contains(m.getName()) || Modifier.isPublic(m.getModifiers()), true);
        }
        for (Class<?> inner : c.getDeclaredClasses()) {
            int is = inner.getModifiers();
            CHECK.due("class " + inner.getName(), Modifier.isStatic(is) && !Modifier.isPublic(is) && !Modifier.isProtected(is), true);
            for (Method m : inner.getDeclaredMethods()) {
                CHECK.due("method " + m.getName() + " of " + inner.getName() + " is named as none of the face", names.contains(m.getName()), false);
            }
        }
        CHECK.close();
    }

    private static boolean isHidden(Member m) {
        return Modifier.isPrivate(m.getModifiers());
    }

    private static TreeSet<String> face(Class<?> c) {
        TreeSet<String> found = new TreeSet<>();
        for (Method m : c.getDeclaredMethods()) {
            if (Modifier.isPublic(m.getModifiers())) {
                StringBuilder s = new StringBuilder(m.getReturnType() + " " + m.getName() + "(");
                for (int i = 0; i < m.getParameterCount(); i++) {
                    s.append(i == 0 ? "" : ", ").append(m.getParameterTypes()[i]);
                }
                s.append(')');
                for (Class<?> e : m.getExceptionTypes()) {
                    s.append(' ').append(e.getSimpleName());
                }
                found.add(s.toString());
            }
        }
        return found;
    }
}
