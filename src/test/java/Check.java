import java.nio.charset.StandardCharsets;

/** What every test uses: texts fed to an object, and answers held against what is due. */
final class Check {
    private static int wrong = 0;
    private static int checked = 0;

    private Check() {
    }

    static void due(String what, long got, long want) {
        checked++;
        if (got != want) {
            wrong++;
            if (wrong <= 40) {
                System.out.println(what + " answered " + got + ", due is " + want);
            }
        }
    }

    static void due(String what, boolean got, boolean want) {
        due(what, got ? 1 : 0, want ? 1 : 0);
    }

    static boolean allWell() {
        return wrong == 0;
    }

    static void finish(String name) {
        System.out.println(name + ": " + checked + " answers, " + wrong + " not as due");
        if (wrong != 0) {
            System.exit(1);
        }
    }

    /** Puts a text on the tape, in place of what it holds. */
    static void tape(OutOfPawn x, String text) {
        byte[] bytes = text.getBytes(StandardCharsets.ISO_8859_1);
        x.end(0);
        for (int at = 0; at < bytes.length; at += 20) {
            x.feed(four(bytes, at), four(bytes, at + 4), four(bytes, at + 8), four(bytes, at + 12), four(bytes, at + 16));
        }
        x.end(bytes.length);
    }

    private static int four(byte[] bytes, int at) {
        int number = 0;
        for (int i = at; i < at + 4; i++) {
            number = number << 8 | (i < bytes.length ? bytes[i] & 255 : 0);
        }
        return number;
    }

    static int book(OutOfPawn x, String text) {
        tape(x, text);
        return x.book();
    }

    static int rule(OutOfPawn x, String text) {
        tape(x, text);
        return x.rule();
    }

    static OutOfPawn withBook(String text) {
        OutOfPawn x = new OutOfPawn();
        if (book(x, text) < 0) {
            throw new IllegalArgumentException("the test's own book has a fault: " + text);
        }
        return x;
    }
}
