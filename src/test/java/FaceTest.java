import java.lang.reflect.Constructor;
import java.lang.reflect.Field;
import java.lang.reflect.Method;
import java.lang.reflect.Modifier;
import java.nio.charset.StandardCharsets;
import java.nio.file.Files;
import java.nio.file.Path;
import java.util.ArrayList;
import java.util.List;
import java.util.TreeSet;

/** The public face of the document, and what of ../shared/LANGUAGE.md shows from outside. */
public final class FaceTest {
    private static final List<String> FACE = List.of(
        "int feed(int, int, int, int, int)", "int end(int)", "int book()", "int rule()", "int thing(int, int)",
        "int count(int)", "int owed(int, int)", "int earned(int, int, int)", "int act(int, int, int)",
        "boolean row(int)", "int judged(int)", "int then(int, int)", "int soon()", "int best(int)",
        "int fetched(int)", "int hangs(int)", "int key()", "int wise(int)", "int borrowed(int)", "int when()",
        "int sold(int, int)", "int selling(int)", "long likes(int, int, int, int, int)", "int ruled(int, int)",
        "int finest()", "int parts(int, int)", "int holds(int, int)", "int goes(int, int, int)", "int surely()",
        "int most(int, int)", "int needed(int, int)", "int pays(int, int, int)", "int image(int)", "int back(int)");
    private static final List<String> FORBIDDEN = List.of("throw", "try", "catch", "synchronized", "assert", "import",
        "package", "->", "::", "@", "var ", "Exception", "System.out", "Random", "nanoTime", "toString", "hashCode");

    private FaceTest() {
    }

    private static void isTrue(String what, boolean holds) {
        Check.due(what, holds, true);
    }

    private static String signature(Method m) {
        List<String> types = new ArrayList<>();
        for (Class<?> type : m.getParameterTypes()) {
            types.add(type.getSimpleName());
        }
        return m.getReturnType().getSimpleName() + " " + m.getName() + "(" + String.join(", ", types) + ")";
    }

    private static void face() {
        Class<?> c = OutOfPawn.class;
        isTrue("public and final", Modifier.isPublic(c.getModifiers()) && Modifier.isFinal(c.getModifiers()));
        TreeSet<String> open = new TreeSet<>();
        TreeSet<String> names = new TreeSet<>();
        TreeSet<String> closed = new TreeSet<>();
        for (Method m : c.getDeclaredMethods()) {
            if (Modifier.isPrivate(m.getModifiers())) {
                closed.add(m.getName());
            } else {
                open.add(signature(m));
                names.add(m.getName());
                isTrue(m.getName() + " is public", Modifier.isPublic(m.getModifiers()) && !Modifier.isStatic(m.getModifiers()));
            }
        }
        isTrue("the methods of the face alone: " + open, open.equals(new TreeSet<>(FACE)));
        closed.retainAll(names);
        isTrue("no private method bears a public one's name: " + closed, closed.isEmpty());
        Constructor<?>[] constructors = c.getDeclaredConstructors();
        isTrue("one constructor", constructors.length == 1 && Modifier.isPublic(constructors[0].getModifiers()));
        for (Field f : c.getDeclaredFields()) {
            isTrue(f.getName() + " is private", Modifier.isPrivate(f.getModifiers()) || f.getName().equals("NONE"));
            isTrue(f.getName() + " if static is final", !Modifier.isStatic(f.getModifiers()) || Modifier.isFinal(f.getModifiers()));
        }
    }

    private static void inside() {
        Class<?>[] classes = OutOfPawn.class.getDeclaredClasses();
        isTrue("some twelve classes", classes.length <= 12);
        for (Class<?> c : classes) {
            int m = c.getModifiers();
            isTrue(c + " is static", Modifier.isStatic(m) && !Modifier.isPublic(m) && !Modifier.isProtected(m));
            int fields = 0;
            for (Field f : c.getDeclaredFields()) {
                fields += Modifier.isStatic(f.getModifiers()) ? 0 : 1;
            }
            isTrue(c + " has some twenty fields", fields <= 20);
            for (Method method : c.getDeclaredMethods()) {
                isTrue(method + " has seven parameters at most", method.getParameterCount() <= 7);
            }
        }
    }

    private static void text() throws Exception {
        String text = Files.readString(Path.of("src/main/java/OutOfPawn.java"), StandardCharsets.ISO_8859_1);
        String code = text.replaceAll("(?s)/\\*.*?\\*/", "").replaceAll("//[^\n]*", "");
        for (String word : FORBIDDEN) {
            boolean isWord = Character.isLetter(word.charAt(0)) && Character.isLetter(word.charAt(word.length() - 1));
            boolean there = isWord ? code.matches("(?s).*\\b" + word + "\\b.*") : code.contains(word);
            isTrue("no " + word, !there);
        }
        methodLengths(text.split("\n"));
    }

    /** A method's first line ends in ') {'; its last one is a '}' that stands as far in. */
    private static void methodLengths(String[] lines) {
        int start = 0;
        String end = "";
        int methods = 0;
        for (int i = 0; i < lines.length; i++) {
            if (end.isEmpty() && lines[i].matches(" {4}( {4})?[a-zA-Z].*\\) \\{")) {
                start = i;
                end = lines[i].replaceAll("[^ ].*", "") + "}";
                methods++;
            } else if (!end.isEmpty() && lines[i].equals(end)) {
                isTrue("some sixty lines at most from line " + (start + 1), i - start < 60);
                end = "";
            }
        }
        isTrue("all methods were found: " + methods, methods > 130 && end.isEmpty());
    }

    public static void main(String[] args) throws Exception {
        face();
        inside();
        text();
        Check.finish("FaceTest");
    }
}
