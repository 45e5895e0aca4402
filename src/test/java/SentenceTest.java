import java.lang.reflect.Method;
import java.nio.charset.StandardCharsets;
import java.nio.file.Files;
import java.nio.file.Path;
import java.util.BitSet;
import java.util.Set;
import java.util.TreeSet;

/** Every sentence of the Terms and the Promises has a test of its own that names it, and no test names what is not there. */
public final class SentenceTest {
    /** Headings, numbers of parts, a call's face, and what stands between two sentences. */
    private static final String NO_SENTENCE = "(## Terms|==== [IV]+\\.|The constants:|## Promise [0-9]+: [A-Za-z ]+ `[^`]+`:|[ |])*";

    private SentenceTest() {
    }

    /** Marks all places of a quote; one of a promise's own words only under that promise. */
    private static boolean mark(String all, Edge edge, BitSet told) {
        boolean found = false;
        for (int at = all.indexOf(edge.says()); at >= 0; at = all.indexOf(edge.says(), at + 1)) {
            int heading = all.lastIndexOf("## Promise ", at);
            if (heading < 0 || all.startsWith("## Promise " + edge.promise() + ": ", heading)) {
                found = true;
                told.set(at, at + edge.says().length());
            }
        }
        return found;
    }

    public static void main(String[] args) throws Exception {
        Path doc = Path.of(args.length > 0 ? args[0] : "../shared", "DOC.md");
        String all = Files.readString(doc, StandardCharsets.UTF_8).replaceAll("(?m)^```.*$", "").replaceAll("\\s+", " ");
        BitSet told = new BitSet();
        Set<Integer> promises = new TreeSet<>();
        Set<String> names = new TreeSet<>();
        for (Method m : Edges.all()) {
            Edge edge = m.getAnnotation(Edge.class);
            promises.add(edge.promise());
            Check.due("stands in the document: " + Edges.nameOf(m), mark(all, edge, told), true);
            Check.due("has one test: " + Edges.nameOf(m), names.add(edge.promise() + " " + edge.says()), true);
        }
        for (int promise = 1; promise <= 35; promise++) {
            Check.due("promise " + promise + " has a test", promises.contains(promise), true);
        }
        int end = all.indexOf("## Not promised");
        int next = 0;
        for (int at = told.nextClearBit(all.indexOf("## Terms ")); at < end; at = told.nextClearBit(next)) {
            next = told.nextSetBit(at) < 0 ? end : Math.min(end, told.nextSetBit(at));
            String untold = all.substring(at, next);
            Check.due("no test names \"" + untold + "\"", untold.matches(NO_SENTENCE), true);
        }
        Check.finish("SentenceTest");
    }
}
