import java.io.ByteArrayOutputStream;
import java.io.IOException;
import java.io.InputStream;
import java.io.OutputStream;
import java.lang.reflect.Method;
import java.net.URI;
import java.nio.charset.StandardCharsets;
import java.nio.file.Files;
import java.nio.file.Path;
import java.util.ArrayList;
import java.util.HashMap;
import java.util.List;
import java.util.Map;
import java.util.concurrent.ExecutionException;
import java.util.concurrent.ExecutorService;
import java.util.concurrent.Executors;
import java.util.concurrent.Future;
import java.util.concurrent.TimeUnit;
import java.util.concurrent.TimeoutException;
import javax.tools.FileObject;
import javax.tools.ForwardingJavaFileManager;
import javax.tools.JavaCompiler;
import javax.tools.JavaFileManager;
import javax.tools.JavaFileObject;
import javax.tools.SimpleJavaFileObject;
import javax.tools.StandardLocation;
import javax.tools.ToolProvider;

/** Breaks the class in every way that the tests of sentences name, and sees each of these tests fail then. */
public final class BreakTest {
    private static final int MOST_SECONDS = 120;

    private BreakTest() {
    }

    private static final class Source extends SimpleJavaFileObject {
        private final String text;

        Source(String text) {
            super(URI.create("string:///OutOfPawn.java"), Kind.SOURCE);
            this.text = text;
        }

        @Override
        public CharSequence getCharContent(boolean ignoreEncodingErrors) {
            return text;
        }
    }

    private static final class Compiled extends SimpleJavaFileObject {
        private final ByteArrayOutputStream bytes = new ByteArrayOutputStream();

        Compiled(String name) {
            super(URI.create("bytes:///" + name + ".class"), Kind.CLASS);
        }

        @Override
        public OutputStream openOutputStream() {
            return bytes;
        }
    }

    private static final class Memory extends ForwardingJavaFileManager<JavaFileManager> {
        private final Map<String, Compiled> classes = new HashMap<>();

        Memory(JavaFileManager files) {
            super(files);
        }

        @Override
        public JavaFileObject getJavaFileForOutput(Location where, String name, JavaFileObject.Kind kind, FileObject beside) {
            classes.put(name, new Compiled(name));
            return classes.get(name);
        }

        /** No class but the library's is looked up, so that none comes from the unbroken class. */
        @Override
        public Iterable<JavaFileObject> list(Location where, String in, java.util.Set<JavaFileObject.Kind> kinds, boolean deep)
            throws IOException {
            return where == StandardLocation.CLASS_PATH ? List.of() : super.list(where, in, kinds, deep);
        }
    }

    /** Loads the broken class, and the tests anew so that they use it. */
    private static final class Loader extends ClassLoader {
        private final Map<String, Compiled> classes;

        Loader(Map<String, Compiled> classes) {
            super(BreakTest.class.getClassLoader());
            this.classes = classes;
        }

        @Override
        protected Class<?> loadClass(String name, boolean resolve) throws ClassNotFoundException {
            synchronized (getClassLoadingLock(name)) {
                Class<?> loaded = findLoadedClass(name);
                if (loaded != null) {
                    return loaded;
                }
                byte[] bytes = name.contains(".") ? null : bytesOf(name);
                return bytes == null ? super.loadClass(name, resolve) : defineClass(name, bytes, 0, bytes.length);
            }
        }

        private byte[] bytesOf(String name) throws ClassNotFoundException {
            if (classes.containsKey(name)) {
                return classes.get(name).bytes.toByteArray();
            }
            try (InputStream in = getParent().getResourceAsStream(name + ".class")) {
                return in == null ? null : in.readAllBytes();
            } catch (IOException e) {
                throw new ClassNotFoundException(name, e);
            }
        }
    }

    /** What is amiss with a break; empty if the sentence's test fails by it, as is due. */
    private static String amiss(String source, Method test, String piece, String instead) {
        int at = source.indexOf(piece);
        if (at < 0 || source.indexOf(piece, at + 1) >= 0) {
            return "the piece does not stand once in the class";
        }
        String broken = source.substring(0, at) + instead + source.substring(at + piece.length());
        JavaCompiler compiler = ToolProvider.getSystemJavaCompiler();
        StringBuilder said = new StringBuilder();
        Memory memory = new Memory(compiler.getStandardFileManager(null, null, StandardCharsets.ISO_8859_1));
        boolean compiles = compiler.getTask(null, memory, d -> said.append(d).append('\n'), List.of("-proc:none", "-nowarn"),
            null, List.of(new Source(broken))).call();
        if (!compiles) {
            return "it does not compile: " + said;
        }
        try {
            Method run = Class.forName("Edges", true, new Loader(memory.classes))
                .getDeclaredMethod("runNamed", String.class, String.class);
            run.setAccessible(true);
            Object wrong = run.invoke(null, test.getDeclaringClass().getName(), test.getName());
            return Integer.valueOf(0).equals(wrong) ? "no answer shows it" : "";
        } catch (ReflectiveOperationException e) {
            return "it could not be run: " + e;
        }
    }

    public static void main(String[] args) throws Exception {
        String source = Files.readString(Path.of("src/main/java/OutOfPawn.java"), StandardCharsets.ISO_8859_1);
        String only = args.length > 1 ? args[1] : "";
        ExecutorService workers = Executors.newFixedThreadPool(Runtime.getRuntime().availableProcessors(), r -> {
            Thread thread = new Thread(r);
            thread.setDaemon(true);
            return thread;
        });
        List<String> names = new ArrayList<>();
        List<Future<String>> found = new ArrayList<>();
        for (Method m : Edges.all()) {
            String[] broken = m.getAnnotation(Edge.class).broken();
            Check.due(Edges.nameOf(m) + ": pairs of breaks", broken.length >= 2 && broken.length % 2 == 0, true);
            for (int i = 0; i + 1 < broken.length && Edges.nameOf(m).contains(only); i += 2) {
                String piece = broken[i];
                String instead = broken[i + 1];
                names.add(Edges.nameOf(m) + "\n    " + piece + "\n  broken as\n    " + instead + "\n ");
                found.add(workers.submit(() -> amiss(source, m, piece, instead)));
            }
        }
        for (int i = 0; i < found.size(); i++) {
            Check.due(names.get(i) + resultOf(found.get(i)), resultOf(found.get(i)).isEmpty(), true);
        }
        System.out.println(found.size() + " breaks");
        Check.finish("BreakTest");
        workers.shutdownNow();
    }

    private static String resultOf(Future<String> found) throws InterruptedException {
        try {
            return found.get(MOST_SECONDS, TimeUnit.SECONDS);
        } catch (ExecutionException | TimeoutException e) {
            return "it threw or did not end: " + e;
        }
    }
}
