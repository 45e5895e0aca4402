/** Made-up texts, the same ones for the same seed. */
final class MadeUp {
    private long seed;

    MadeUp(long seed) {
        this.seed = seed;
    }

    /** A number from 0 to one less. */
    int any(int below) {
        seed = seed * 6364136223846793005L + 1442695040888963407L;
        return (int) ((seed >>> 33) % below);
    }

    private String oneOf(String... words) {
        return words[any(words.length)];
    }

    private String value(boolean ofRule) {
        if (any(3) == 0) {
            return String.valueOf(any(any(8) == 0 ? 100000 : 6));
        }
        return ofRule ? oneOf("owed", "runs", "left", "adds", "worth", "week", "coin", "home", "in") : oneOf("week", "home", "in");
    }

    private String sum(boolean ofRule) {
        StringBuilder s = new StringBuilder(value(ofRule));
        for (int i = any(4); i > 1; i--) {
            s.append(oneOf("+", " - ", "*", " /")).append(value(ofRule));
        }
        return s.toString();
    }

    private String test(boolean ofRule, int depth) {
        int kind = any(depth > 2 ? 3 : 7);
        if (kind < 3) {
            return sum(ofRule) + oneOf("<", " <= ", "=", ">= ", " >") + sum(ofRule);
        }
        if (kind == 3) {
            return "not " + test(ofRule, depth + 1);
        }
        if (kind == 4) {
            return "[" + test(ofRule, depth + 1) + oneOf("]", " ]");
        }
        return test(ofRule, depth + 1) + (kind == 5 ? " and " : " or ") + test(ofRule, depth + 1);
    }

    private String maybeTest(boolean ofRule) {
        return any(2) == 0 ? "" : " if " + test(ofRule, 0);
    }

    String bookText(int things, int weeks) {
        StringBuilder s = new StringBuilder();
        String letters = "";
        for (int i = 0; i < 8 && letters.length() < things; i++) {
            if (any(8) < things || 8 - i <= things - letters.length()) {
                char letter = (char) ('a' + i);
                letters += letter;
                s.append("thing ").append(letter).append(' ').append(1 + any(20)).append(' ').append(any(4));
                s.append(any(3) == 0 ? " lost " + (1 + any(weeks + 1)) : "");
                s.append(any(3) == 0 ? " lends " + any(15) : "");
                s.append(any(3) == 0 ? " sells " + any(25) : "");
                s.append(any(3) == 0 ? " worth " + any(40) : "");
                s.append(';');
            }
        }
        for (int i = any(4); i > 0 && !letters.isEmpty(); i--) {
            s.append("set");
            int bits = 1 + any((1 << letters.length()) - 1);
            for (int t = 0; t < letters.length(); t++) {
                s.append((bits >> t & 1) != 0 ? " " + letters.charAt(t) : "");
            }
            s.append(" earns ").append(any(9)).append(maybeTest(false)).append(';');
        }
        for (int i = any(3); i > 0; i--) {
            s.append("needs ").append(any(5)).append(maybeTest(false)).append(';');
        }
        s.append(any(2) == 0 ? "luck " + any(1001) + ";" : "");
        s.append(any(2) == 0 ? "cousin " + any(25) + " till " + (1 + any(weeks)) + ";" : "");
        s.append("coin ").append(any(40)).append("; weeks ").append(weeks);
        return s.toString();
    }

    String ruleText() {
        StringBuilder s = new StringBuilder();
        for (int i = 1 + any(3); i > 0; i--) {
            s.append(s.length() > 0 ? ";" : "").append("like ").append(sum(true)).append(maybeTest(true));
        }
        return any(3) == 0 ? s + ";keep " + any(9) : s.toString();
    }

    /** A text with some signs changed, dropped, doubled or added, so that its faults are met. */
    String mangled(String text) {
        StringBuilder s = new StringBuilder(text);
        String[] pieces = {";", " ", "[", "]", "not ", "and", " or ", "if", "<", "=", ">=", "9", "123456", "in", "week",
            "a", "b", "thing a 1 1", "coin 5", "weeks 3", "lost 3", "sells 1", "*", "-", "keep 3", "like ", "\u00e9", "A"};
        for (int i = any(3); i >= 0; i--) {
            int at = any(s.length() + 1);
            int kind = any(4);
            if (kind == 0 && at < s.length()) {
                s.deleteCharAt(at);
            } else if (kind == 1) {
                s.setLength(at);
            } else {
                s.insert(at, pieces[any(pieces.length)]);
            }
        }
        s.setLength(Math.min(400, s.length()));
        return s.toString();
    }
}
