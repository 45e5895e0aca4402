import java.io.ByteArrayOutputStream;
import java.io.IOException;
import java.io.InputStream;
import java.io.OutputStream;
import java.net.URI;
import java.nio.charset.StandardCharsets;
import java.util.HashMap;
import java.util.List;
import java.util.Map;
import javax.tools.FileObject;
import javax.tools.ForwardingJavaFileManager;
import javax.tools.JavaCompiler;
import javax.tools.JavaFileManager;
import javax.tools.JavaFileObject;
import javax.tools.SimpleJavaFileObject;
import javax.tools.StandardLocation;
import javax.tools.ToolProvider;

/** Compiles a class from a text, and loads it, without a file of its own. */
final class InMemory {
    private InMemory() {
    }

    private static final class Source extends SimpleJavaFileObject {
        private final String text;

        Source(String name, String text) {
            super(URI.create("string:///" + name + ".java"), Kind.SOURCE);
            this.text = text;
        }

        @Override
        public CharSequence getCharContent(boolean ignoreEncodingErrors) {
            return text;
        }
    }

    private static final class Compiled extends SimpleJavaFileObject {
        private final ByteArrayOutputStream bytes = new ByteArrayOutputStream();

        Compiled(String name) {
            super(URI.create("bytes:///" + name + ".class"), Kind.CLASS);
        }

        @Override
        public OutputStream openOutputStream() {
            return bytes;
        }
    }

    private static final class Memory extends ForwardingJavaFileManager<JavaFileManager> {
        private final Map<String, Compiled> classes = new HashMap<>();
        private final boolean seesTests;

        Memory(JavaFileManager files, boolean seesTests) {
            super(files);
            this.seesTests = seesTests;
        }

        @Override
        public JavaFileObject getJavaFileForOutput(Location where, String name, JavaFileObject.Kind kind, FileObject beside) {
            classes.put(name, new Compiled(name));
            return classes.get(name);
        }

        /** A broken class must not see the tests' classes: parts of the unbroken one are among them. */
        @Override
        public Iterable<JavaFileObject> list(Location where, String in, java.util.Set<JavaFileObject.Kind> kinds, boolean deep)
            throws IOException {
            return where == StandardLocation.CLASS_PATH && !seesTests ? List.of() : super.list(where, in, kinds, deep);
        }
    }

    /** Loads what was compiled, and the tests anew so that they use it. */
    private static final class Loader extends ClassLoader {
        private final Map<String, Compiled> classes;

        Loader(Map<String, Compiled> classes) {
            super(InMemory.class.getClassLoader());
            this.classes = classes;
        }

        @Override
        protected Class<?> loadClass(String name, boolean resolve) throws ClassNotFoundException {
            synchronized (getClassLoadingLock(name)) {
                Class<?> loaded = findLoadedClass(name);
                if (loaded != null) {
                    return loaded;
                }
                byte[] bytes = name.contains(".") ? null : bytesOf(name);
                return bytes == null ? super.loadClass(name, resolve) : defineClass(name, bytes, 0, bytes.length);
            }
        }

        private byte[] bytesOf(String name) throws ClassNotFoundException {
            if (classes.containsKey(name)) {
                return classes.get(name).bytes.toByteArray();
            }
            try (InputStream in = getParent().getResourceAsStream(name + ".class")) {
                return in == null ? null : in.readAllBytes();
            } catch (IOException e) {
                throw new ClassNotFoundException(name, e);
            }
        }
    }

    /** By what the class and the tests that use it are loaded; null if it does not compile, with what was said. */
    static ClassLoader compiled(String name, String text, boolean seesTests, StringBuilder said) {
        JavaCompiler compiler = ToolProvider.getSystemJavaCompiler();
        Memory memory = new Memory(compiler.getStandardFileManager(null, null, StandardCharsets.ISO_8859_1), seesTests);
        boolean compiles = compiler.getTask(null, memory, d -> said.append(d).append('\n'), List.of("-proc:none", "-nowarn"),
            null, List.of(new Source(name, text))).call();
        return compiles ? new Loader(memory.classes) : null;
    }
}
