import java.nio.charset.StandardCharsets;

/** What every test uses: texts fed to an object, and answers held against what is due. */
final class Check {
    private static int wrong = 0;
    private static int checked = 0;
    private static String head = "";
    private static boolean isQuiet = false;

    private Check() {
    }

    /** What stands ahead of each answer that is not as due, from now on. */
    static void head(String itsHead) {
        head = itsHead.isEmpty() ? "" : itsHead + ": ";
    }

    static void quiet() {
        isQuiet = true;
    }

    static int wrong() {
        return wrong;
    }

    static void due(String what, long got, long want) {
        checked++;
        if (got != want) {
            wrong++;
            if (wrong <= 40 && !isQuiet) {
                System.out.println(head + what + " answered " + got + ", due is " + want);
            }
        }
    }

    static void due(String what, boolean got, boolean want) {
        due(what, got ? 1 : 0, want ? 1 : 0);
    }

    static boolean allWell() {
        return wrong == 0;
    }

    static void finish(String name) {
        System.out.println(name + ": " + checked + " answers, " + wrong + " not as due");
        if (wrong != 0) {
            System.exit(1);
        }
    }

    /** Puts a text on the tape, in place of what it holds. */
    static void tape(OutOfPawn x, String text) {
        byte[] bytes = text.getBytes(StandardCharsets.ISO_8859_1);
        if (bytes.length > 400) {
            throw new IllegalArgumentException("the test's own text is too long: " + text);
        }
        x.end(0);
        for (int at = 0; at < bytes.length; at += 20) {
            x.feed(four(bytes, at), four(bytes, at + 4), four(bytes, at + 8), four(bytes, at + 12), four(bytes, at + 16));
        }
        x.end(bytes.length);
    }

    private static int four(byte[] bytes, int at) {
        int number = 0;
        for (int i = at; i < at + 4; i++) {
            number = number << 8 | (i < bytes.length ? bytes[i] & 255 : 0);
        }
        return number;
    }

    static int book(OutOfPawn x, String text) {
        tape(x, text);
        return x.book();
    }

    static int rule(OutOfPawn x, String text) {
        tape(x, text);
        return x.rule();
    }

    static OutOfPawn with(String book, String... rules) {
        OutOfPawn x = new OutOfPawn();
        if (book(x, book) < 0) {
            throw new IllegalArgumentException("the test's own book has a fault: " + book);
        }
        for (String rule : rules) {
            if (rule(x, rule) < 0) {
                throw new IllegalArgumentException("the test's own rule has a fault: " + rule);
            }
        }
        return x;
    }

    private static int dueOf(String marked, int kind) {
        return -2 - (1 + 8 * marked.indexOf('^') + kind);
    }

    /** A BOOK with a FAULT of a kind at the place that ^ marks. */
    static void bookFault(String marked, int kind) {
        String text = marked.replace("^", "");
        due("book " + text, book(new OutOfPawn(), text), dueOf(marked, kind));
    }

    static void ruleFault(String marked, int kind) {
        String text = marked.replace("^", "");
        due("rule " + text, rule(new OutOfPawn(), text), dueOf(marked, kind));
    }

    static void fineBook(String text) {
        due("book " + text, book(new OutOfPawn(), text) >= 0, true);
    }

    static void fineRule(String text) {
        due("rule " + text, rule(new OutOfPawn(), text), 0);
    }

    /** Whether a TEST of a BOOK holds in a WEEK, with a set HOME. */
    static boolean holds(String things, String test, int week, int home) {
        OutOfPawn x = with(things + "needs 1 if " + test);
        return x.earned(home, week, 1) == 1;
    }

    static void act(OutOfPawn x, int... weeksSortsThings) {
        for (int i = 0; i + 2 < weeksSortsThings.length; i += 3) {
            if (x.act(weeksSortsThings[i], weeksSortsThings[i + 1], weeksSortsThings[i + 2]) < 0) {
                throw new IllegalArgumentException("the test's own act " + i / 3 + " was refused");
            }
        }
    }

    /** JUDGED: the first act that can't be, the week of being broke, coin, home, gone. */
    static void judged(String what, OutOfPawn x, int... want) {
        for (int i = 0; i < want.length; i++) {
            due(what + ", judged " + i, x.judged(i), want[i]);
        }
    }
}
