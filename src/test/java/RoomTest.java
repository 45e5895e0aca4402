import java.lang.reflect.Array;
import java.lang.reflect.Field;
import java.lang.reflect.Modifier;
import java.nio.charset.StandardCharsets;
import java.nio.file.Files;
import java.nio.file.Path;
import java.util.ArrayDeque;
import java.util.Collections;
import java.util.IdentityHashMap;
import java.util.List;
import java.util.Set;

/** Rule 12 of ../shared/LANGUAGE.md: rows are made in constructors, and calls make nothing. */
public final class RoomTest {
    private static final int MOST_OBJECTS = 300;
    private static final int MOST_CELLS = 70000;

    /** All by which an object could come to be without 'new'. */
    private static final List<String> MAKING = List.of(".clone(", "copyOf", "StringBuilder", "substring", "toCharArray",
        "Integer ", "Integer>", "List<", "valueOf", ".values(", "= {", "record ", "enum ", "\" +", "+ \"");

    private RoomTest() {
    }

    /** A constructor's first line is its class's name and brackets alone; its last one stands as far in. */
    private static void makesInConstructorsAlone() throws Exception {
        String[] lines = Files.readString(Path.of("src/main/java/OutOfPawn.java"), StandardCharsets.ISO_8859_1).split("\n");
        String end = "";
        int made = 0;
        for (int i = 0; i < lines.length; i++) {
            String code = lines[i].replaceAll("//.*", "").replaceAll("^ *(/\\*\\*|\\*).*", "");
            if (code.matches(" {4}( {4})?(public )?[A-Z][A-Za-z]*\\(.*\\) \\{")) {
                end = code.replaceAll("[^ ].*", "") + "}";
            } else if (code.equals(end)) {
                end = "";
            }
            boolean makes = code.matches(".*\\bnew\\b.*");
            made += makes ? 1 : 0;
            Check.due("new outside a constructor in line " + (i + 1), makes && end.isEmpty(), false);
            for (String making : MAKING) {
                Check.due(making + " in line " + (i + 1), code.contains(making), false);
            }
        }
        Check.due("all that is made was found: " + made, made > 40, true);
    }

    private static boolean holdsObjects(Class<?> type) {
        return !type.isPrimitive() && type != String.class;
    }

    private static void follow(Object child, Set<Object> seen, ArrayDeque<Object> open) {
        if (child != null && seen.add(child)) {
            open.add(child);
        }
    }

    /** Objects and, of all of them, the fields and elements, as many as hang on one object. */
    private static int[] counted(OutOfPawn x) throws Exception {
        Set<Object> seen = Collections.newSetFromMap(new IdentityHashMap<>());
        ArrayDeque<Object> open = new ArrayDeque<>();
        follow(x, seen, open);
        int cells = 0;
        while (!open.isEmpty()) {
            Object next = open.poll();
            Class<?> type = next.getClass();
            if (type.isArray()) {
                cells += Array.getLength(next);
                for (int i = 0; holdsObjects(type.getComponentType()) && i < Array.getLength(next); i++) {
                    follow(Array.get(next, i), seen, open);
                }
                continue;
            }
            for (Field field : type.getDeclaredFields()) {
                if (!Modifier.isStatic(field.getModifiers())) {
                    cells++;
                    field.setAccessible(true);
                    if (holdsObjects(field.getType())) {
                        follow(field.get(next), seen, open);
                    }
                }
            }
        }
        return new int[] {seen.size(), cells};
    }

    private static void callEach(OutOfPawn x) {
        Check.tape(x, "thing a 20 2 lost 9 lends 9 sells 30;thing b 15 1;set a earns 6 if in < 2;set a b earns 9;"
            + "needs 2;cousin 20 till 6;coin 20;luck 700;weeks 9");
        x.book();
        Check.tape(x, "like adds;keep 1");
        x.rule();
        Check.tape(x, "like 1");
        x.rule();
        x.act(0, 0, 1);
        for (int i = 0; i < 9; i++) {
            x.best(i % 6);
            x.fetched(i % 2);
            x.hangs(i % 2);
            x.wise(i % 2);
            x.borrowed(i);
            x.sold(i % 2, i);
            x.selling(i % 2);
            x.holds(i, 9);
            x.goes(i % 2, i, 9);
            x.most(i, 1);
            x.needed(i % 4, i);
            x.image(i % 4);
            x.back(i % 4);
        }
        x.soon();
        x.key();
        x.when();
        x.judged(2);
        x.then(1, 0);
        x.likes(0, 0, 1, 2, 9);
        x.ruled(0, 3);
        x.finest();
        x.parts(0, 1);
        x.surely();
        x.pays(0, 3, 1);
    }

    public static void main(String[] args) throws Exception {
        makesInConstructorsAlone();
        OutOfPawn x = new OutOfPawn();
        int[] first = counted(x);
        Check.due("objects at first: " + first[0], first[0] <= MOST_OBJECTS, true);
        Check.due("fields and elements at first: " + first[1], first[1] <= MOST_CELLS, true);
        callEach(x);
        int[] then = counted(x);
        Check.due("objects after calls", then[0], first[0]);
        Check.due("fields and elements after calls", then[1], first[1]);
        System.out.println(first[0] + " objects, " + first[1] + " fields and elements");
        Check.finish("RoomTest");
    }
}
