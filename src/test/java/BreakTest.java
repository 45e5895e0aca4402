import java.lang.reflect.Method;
import java.nio.charset.StandardCharsets;
import java.nio.file.Files;
import java.nio.file.Path;
import java.util.ArrayList;
import java.util.List;
import java.util.concurrent.ExecutionException;
import java.util.concurrent.ExecutorService;
import java.util.concurrent.Executors;
import java.util.concurrent.Future;
import java.util.concurrent.TimeUnit;
import java.util.concurrent.TimeoutException;

/** Breaks the class in every way that the tests of sentences name, and sees each of these tests fail then. */
public final class BreakTest {
    private static final int MOST_SECONDS = 120;

    private BreakTest() {
    }

    /** What is amiss with a break; empty if the sentence's test fails by it, as is due. */
    private static String amiss(String source, Method test, String piece, String instead) {
        int at = source.indexOf(piece);
        if (at < 0 || source.indexOf(piece, at + 1) >= 0) {
            return "the piece does not stand once in the class";
        }
        String broken = source.substring(0, at) + instead + source.substring(at + piece.length());
        StringBuilder said = new StringBuilder();
        ClassLoader loader = InMemory.compiled("OutOfPawn", broken, false, said);
        if (loader == null) {
            return "it does not compile: " + said;
        }
        try {
            Method run = Class.forName("Edges", true, loader)
                .getDeclaredMethod("runNamed", String.class, String.class);
            run.setAccessible(true);
            Object wrong = run.invoke(null, test.getDeclaringClass().getName(), test.getName());
            return Integer.valueOf(0).equals(wrong) ? "no answer shows it" : "";
        } catch (ReflectiveOperationException e) {
            return "it could not be run: " + e;
        }
    }

    public static void main(String[] args) throws Exception {
        String source = Files.readString(Path.of("src/main/java/OutOfPawn.java"), StandardCharsets.ISO_8859_1);
        String only = args.length > 1 ? args[1] : "";
        ExecutorService workers = Executors.newFixedThreadPool(Runtime.getRuntime().availableProcessors(), r -> {
            Thread thread = new Thread(r);
            thread.setDaemon(true);
            return thread;
        });
        List<String> names = new ArrayList<>();
        List<Future<String>> found = new ArrayList<>();
        for (Method m : Edges.all()) {
            String[] broken = m.getAnnotation(Edge.class).broken();
            Check.due(Edges.nameOf(m) + ": pairs of breaks", broken.length >= 2 && broken.length % 2 == 0, true);
            for (int i = 0; i + 1 < broken.length && Edges.nameOf(m).contains(only); i += 2) {
                String piece = broken[i];
                String instead = broken[i + 1];
                names.add(Edges.nameOf(m) + "\n    " + piece + "\n  broken as\n    " + instead + "\n ");
                found.add(workers.submit(() -> amiss(source, m, piece, instead)));
            }
        }
        for (int i = 0; i < found.size(); i++) {
            Check.due(names.get(i) + resultOf(found.get(i)), resultOf(found.get(i)).isEmpty(), true);
        }
        System.out.println(found.size() + " breaks");
        Check.finish("BreakTest");
        workers.shutdownNow();
    }

    private static String resultOf(Future<String> found) throws InterruptedException {
        try {
            return found.get(MOST_SECONDS, TimeUnit.SECONDS);
        } catch (ExecutionException | TimeoutException e) {
            return "it threw or did not end: " + e;
        }
    }
}
