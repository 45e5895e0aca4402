import java.lang.reflect.Constructor;
import java.lang.reflect.Field;
import java.lang.reflect.Method;
import java.lang.reflect.Modifier;
import java.util.ArrayList;
import java.util.List;
import java.util.TreeSet;

/** The public face of the document, as it shows from outside. */
public final class FaceTest {
    private static final List<String> FACE = List.of(
        "int feed(int, int, int, int, int)", "int end(int)", "int book()", "int rule()", "int thing(int, int)",
        "int count(int)", "int owed(int, int)", "int earned(int, int, int)", "int act(int, int, int)",
        "boolean row(int)", "int judged(int)", "int then(int, int)", "int soon()", "int best(int)",
        "int fetched(int)", "int hangs(int)", "int key()", "int wise(int)", "int borrowed(int)", "int when()",
        "int sold(int, int)", "int selling(int)", "long likes(int, int, int, int, int)", "int ruled(int, int)",
        "int finest()", "int parts(int, int)", "int holds(int, int)", "int goes(int, int, int)", "int surely()",
        "int most(int, int)", "int needed(int, int)", "int pays(int, int, int)", "int image(int)", "int back(int)");
    private FaceTest() {
    }

    private static void isTrue(String what, boolean holds) {
        Check.due(what, holds, true);
    }

    private static String signature(Method m) {
        List<String> types = new ArrayList<>();
        for (Class<?> type : m.getParameterTypes()) {
            types.add(type.getSimpleName());
        }
        return m.getReturnType().getSimpleName() + " " + m.getName() + "(" + String.join(", ", types) + ")";
    }

    private static void face() {
        Class<?> c = OutOfPawn.class;
        isTrue("public and final", Modifier.isPublic(c.getModifiers()) && Modifier.isFinal(c.getModifiers()));
        TreeSet<String> open = new TreeSet<>();
        TreeSet<String> names = new TreeSet<>();
        TreeSet<String> closed = new TreeSet<>();
        for (Method m : c.getDeclaredMethods()) {
            if (Modifier.isPrivate(m.getModifiers())) {
                closed.add(m.getName());
            } else {
                open.add(signature(m));
                names.add(m.getName());
                isTrue(m.getName() + " is public", Modifier.isPublic(m.getModifiers()) && !Modifier.isStatic(m.getModifiers()));
            }
        }
        isTrue("the methods of the face alone: " + open, open.equals(new TreeSet<>(FACE)));
        closed.retainAll(names);
        isTrue("no private method bears a public one's name: " + closed, closed.isEmpty());
        Constructor<?>[] constructors = c.getDeclaredConstructors();
        isTrue("one constructor", constructors.length == 1 && Modifier.isPublic(constructors[0].getModifiers()));
        for (Field f : c.getDeclaredFields()) {
            isTrue(f.getName() + " is private", Modifier.isPrivate(f.getModifiers()) || f.getName().equals("NONE"));
            isTrue(f.getName() + " if static is final", !Modifier.isStatic(f.getModifiers()) || Modifier.isFinal(f.getModifiers()));
        }
    }

    public static void main(String[] args) {
        face();
        Check.finish("FaceTest");
    }
}
