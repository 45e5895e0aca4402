import java.lang.reflect.Method;

/** Each sentence of the document that names a boundary case, by a test of its own. */
public final class EdgeTest {
    private EdgeTest() {
    }

    public static void main(String[] args) throws IllegalAccessException {
        int sentences = 0;
        for (Method m : Edges.all()) {
            Edges.run(m);
            sentences++;
        }
        System.out.println(sentences + " sentences");
        Check.finish("EdgeTest");
    }
}
