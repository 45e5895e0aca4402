import java.io.ByteArrayOutputStream;
import java.io.PrintStream;
import java.lang.reflect.Method;
import java.lang.reflect.Modifier;
import java.nio.charset.StandardCharsets;
import java.nio.file.Files;
import java.nio.file.Path;
import java.util.ArrayList;
import java.util.List;
import java.util.regex.Matcher;
import java.util.regex.Pattern;

/** The example of README.md compiles, and prints what its comments tell. */
public final class ReadmeTest {
    private static final Pattern EXAMPLE = Pattern.compile("(?s)```java\n(.*?)```");
    private static final Pattern TOLD = Pattern.compile("show\\((x\\..*)\\); *// (-?[0-9]+): ");

    private ReadmeTest() {
    }

    private static List<String> printed(ClassLoader loader) throws ReflectiveOperationException {
        PrintStream screen = System.out;
        ByteArrayOutputStream bytes = new ByteArrayOutputStream();
        System.setOut(new PrintStream(bytes, true, StandardCharsets.ISO_8859_1));
        try {
            Class.forName("Example", true, loader).getDeclaredMethod("main", String[].class).invoke(null, (Object) new String[0]);
        } finally {
            System.setOut(screen);
        }
        return bytes.toString(StandardCharsets.ISO_8859_1).lines().toList();
    }

    public static void main(String[] args) throws Exception {
        String readme = Files.readString(Path.of("README.md"), StandardCharsets.UTF_8);
        Matcher found = EXAMPLE.matcher(readme);
        String example = found.find() ? found.group(1) : "";
        List<String> calls = new ArrayList<>();
        List<String> told = new ArrayList<>();
        for (Matcher m = TOLD.matcher(example); m.find();) {
            calls.add(m.group(1));
            told.add(m.group(2));
        }
        Check.due("all that is shown is told", calls.size(), example.split("show\\(x").length - 1);
        Check.due("something is shown", calls.size() > 9, true);
        StringBuilder said = new StringBuilder();
        ClassLoader loader = InMemory.compiled("Example", example, true, said);
        Check.due("the example compiles: " + said, loader != null, true);
        List<String> printed = loader == null ? List.of() : printed(loader);
        Check.due("so many lines", printed.size(), told.size());
        for (int i = 0; i < printed.size() && i < told.size(); i++) {
            Check.due(calls.get(i), Long.parseLong(printed.get(i)), Long.parseLong(told.get(i)));
        }
        for (Method m : OutOfPawn.class.getDeclaredMethods()) {
            boolean isPublic = Modifier.isPublic(m.getModifiers());
            Check.due("README names " + m.getName(), !isPublic || readme.contains("`" + m.getName() + "`"), true);
        }
        Check.finish("ReadmeTest");
    }
}
