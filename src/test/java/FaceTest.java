import java.lang.reflect.Constructor;
import java.lang.reflect.Field;
import java.lang.reflect.Method;
import java.lang.reflect.Modifier;
import java.util.Arrays;
import java.util.TreeSet;

/** The public face is the document's, and nothing else can be seen from outside. */
public final class FaceTest {
    private static final String[] FACE = {
        "int feed(int)", "int field()", "int person(int, int, int)", "int of(int, int)", "int breath(int, int)",
        "int swap(int, int)", "int row(int, int, int)", "int told(int)", "int leap(int, int, int)", "int turn()",
        "int on(int, int)", "int across(int)", "int gap(int)", "int change()", "int order(int)", "int without(int)",
        "int breathless(int)", "int two()", "int took(int)", "int gave()", "long odds(int)", "long mean(int)",
        "int book(int, int)", "int looked()", "int act(int, int, int)", "int trace(int)", "int as(int, int)",
        "int image()", "int undo()", "int count(int)"};

    private FaceTest() {
    }

    public static void main(String[] args) {
        Class<?> c = OverBacks.class;
        Due.holds("public and final", Modifier.isPublic(c.getModifiers()) && Modifier.isFinal(c.getModifiers()));
        methods(c);
        constants(c);
        Constructor<?>[] made = c.getDeclaredConstructors();
        Due.is("constructors", made.length, 1);
        Due.holds("a public one without parameters", Modifier.isPublic(made[0].getModifiers()) && made[0].getParameterCount() == 0);
        for (Class<?> inside : c.getDeclaredClasses()) {
            int is = inside.getModifiers();
            Due.holds(inside + " is static and not public", Modifier.isStatic(is) && !Modifier.isPublic(is) && !Modifier.isProtected(is));
        }
        Due.end("FaceTest");
    }

    private static void methods(Class<?> c) {
        TreeSet<String> face = new TreeSet<>(Arrays.asList(FACE));
        TreeSet<String> seen = new TreeSet<>();
        TreeSet<String> names = new TreeSet<>();
        for (Method m : c.getDeclaredMethods()) {
            if (!Modifier.isPrivate(m.getModifiers())) {
                String types = Arrays.toString(m.getParameterTypes());
                seen.add(m.getReturnType() + " " + m.getName() + "(" + types.substring(1, types.length() - 1) + ")");
                names.add(m.getName());
                Due.holds(m + " is public alone", m.getModifiers() == Modifier.PUBLIC);
            }
        }
        Due.holds("the methods are " + seen, seen.equals(face));
        for (Method m : c.getDeclaredMethods()) {
            if (Modifier.isPrivate(m.getModifiers())) Due.holds(m + " bears no public name", !names.contains(m.getName()));
        }
        for (Class<?> inside : c.getDeclaredClasses()) {
            for (Method m : inside.getDeclaredMethods()) Due.holds(m + " bears no public name", !names.contains(m.getName()));
        }
    }

    private static void constants(Class<?> c) {
        Due.is("NONE", OverBacks.NONE, -1);
        Due.is("BAD", OverBacks.BAD, -2);
        Due.is("STATE", OverBacks.STATE, -3);
        Due.is("FULL", OverBacks.FULL, -4);
        Due.is("NO", OverBacks.NO, Long.MIN_VALUE);
        TreeSet<String> seen = new TreeSet<>();
        for (Field f : c.getDeclaredFields()) {
            if (!Modifier.isPrivate(f.getModifiers())) seen.add(f.getType() + " " + f.getName());
            boolean isFinal = Modifier.isFinal(f.getModifiers());
            Due.holds(f + " is final, if static", isFinal || !Modifier.isStatic(f.getModifiers()));
        }
        Due.holds("the constants are " + seen, seen.equals(new TreeSet<>(Arrays.asList(
            "int NONE", "int BAD", "int STATE", "int FULL", "long NO"))));
    }
}
