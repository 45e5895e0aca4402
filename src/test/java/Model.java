import java.util.ArrayList;
import java.util.HashMap;
import java.util.List;
import java.util.Map;
import java.util.TreeMap;
import java.util.TreeSet;

/**
 * The document once more, written plainly and slowly and apart from the class: texts read sign by
 * sign, plans by keeping every amount of coin that can be there.
 */
final class Model {
    interface Sum {
        long of(Map<String, Long> words);
    }

    interface Test {
        boolean of(Map<String, Long> words);
    }

    static final class Thing {
        int loan;
        int runs;
        int lost = -1;
        int lends;
        int sells;
        int worth;
    }

    static final class Clause {
        int bits;
        int amount;
        Test test = w -> true;
        Sum sum;
    }

    static final class Fault extends RuntimeException {
        private static final long serialVersionUID = 1L;
        final int number;

        Fault(int place, int kind) {
            number = 1 + 8 * place + kind;
        }
    }

    static final class Book {
        final Map<Integer, Thing> things = new TreeMap<>();
        final List<Clause> sets = new ArrayList<>();
        final List<Clause> needs = new ArrayList<>();
        int weeks = 12;
        int coin = 0;
        int luck = 1000;
        int lends = 0;
        int till = -1;

        int all() {
            int bits = 0;
            for (int thing : things.keySet()) {
                bits += 1 << thing;
            }
            return bits;
        }

        int owed(int thing, int week) {
            return things.get(thing).loan + things.get(thing).runs * week;
        }

        boolean lostBy(int thing, int week) {
            return things.get(thing).lost >= 0 && things.get(thing).lost <= week;
        }

        int sum(List<Clause> clauses, int week, int home, int in) {
            Map<String, Long> words = new HashMap<>();
            words.put("week", (long) week);
            words.put("home", (long) Integer.bitCount(home));
            words.put("in", (long) Integer.bitCount(in));
            int sum = 0;
            for (Clause c : clauses) {
                if ((c.bits & home) == c.bits && c.test.of(words)) {
                    sum += c.amount;
                }
            }
            return sum;
        }
    }

    static final class Rule {
        final List<Clause> likes = new ArrayList<>();
        int keep = 0;
    }

    // ---- reading ----

    private final String text;
    private int at = 0;
    private int pieces = 0;
    private final boolean ofRule;

    private Model(String text, boolean ofRule) {
        this.text = text;
        this.ofRule = ofRule;
    }

    static Book readBook(String text) {
        return new Model(text, false).bookText();
    }

    static Rule readRule(String text) {
        return new Model(text, true).ruleText();
    }

    private void blanks() {
        while (at < text.length() && text.charAt(at) == ' ') {
            at++;
        }
    }

    private char sign() {
        blanks();
        return at < text.length() ? text.charAt(at) : 0;
    }

    private boolean atEnd() {
        blanks();
        return at == text.length();
    }

    private String word() {
        blanks();
        int to = at;
        while (to < text.length() && text.charAt(to) >= 'a' && text.charAt(to) <= 'z') {
            to++;
        }
        return text.substring(at, to);
    }

    private boolean take(String word) {
        if (word().equals(word)) {
            at += word.length();
            return true;
        }
        return false;
    }

    private void must(String word) {
        if (!take(word)) {
            throw new Fault(at, 0);
        }
    }

    private int digits() {
        blanks();
        int to = at;
        while (to < text.length() && Character.digit(text.charAt(to), 10) >= 0 && text.charAt(to) < 128) {
            to++;
        }
        return to - at;
    }

    private int number(int least, int most) {
        int digits = digits();
        if (digits == 0) {
            throw new Fault(at, 0);
        }
        if (digits > 5) {
            throw new Fault(at, 1);
        }
        int number = Integer.parseInt(text.substring(at, at + digits));
        if (number < least || number > most) {
            throw new Fault(at, 1);
        }
        at += digits;
        return number;
    }

    private int letter() {
        String word = word();
        return word.length() == 1 && word.charAt(0) <= 'h' ? word.charAt(0) - 'a' : -1;
    }

    private void between() {
        if (!atEnd()) {
            if (sign() != ';') {
                throw new Fault(at, 0);
            }
            at++;
        }
    }

    private Book bookText() {
        Book book = new Book();
        List<String> once = new ArrayList<>();
        int clauses = 0;
        do {
            String word = word();
            if (!List.of("thing", "set", "needs", "luck", "cousin", "coin", "weeks").contains(word)) {
                throw new Fault(at, 0);
            }
            if (clauses == 24 || once.contains(word)) {
                throw new Fault(at, 4);
            }
            clauses++;
            at += word.length();
            if (word.equals("thing")) {
                thing(book);
            } else if (word.equals("set")) {
                set(book);
            } else if (word.equals("needs")) {
                Clause c = new Clause();
                c.amount = number(0, 9999);
                optionalTest(c);
                book.needs.add(c);
            } else {
                once.add(word);
                once(book, word);
            }
        } while (hasMore());
        return book;
    }

    private boolean hasMore() {
        boolean more = !atEnd();
        between();
        return more;
    }

    private void once(Book book, String word) {
        switch (word) {
            case "luck": book.luck = number(0, 1000); break;
            case "coin": book.coin = number(0, 9999); break;
            case "weeks": book.weeks = number(1, 60); break;
            default:
                book.lends = number(0, 9999);
                must("till");
                book.till = number(1, 60);
        }
    }

    private void thing(Book book) {
        int letter = letter();
        if (letter < 0) {
            throw new Fault(at, 0);
        }
        if (book.things.containsKey(letter)) {
            throw new Fault(at, 5);
        }
        at++;
        Thing thing = new Thing();
        book.things.put(letter, thing);
        thing.loan = number(1, 9999);
        thing.runs = number(0, 999);
        List<String> seen = new ArrayList<>();
        while (List.of("lost", "lends", "sells", "worth").contains(word())) {
            String word = word();
            if (seen.contains(word)) {
                throw new Fault(at, 4);
            }
            seen.add(word);
            at += word.length();
            switch (word) {
                case "lost": thing.lost = number(1, 60); break;
                case "lends": thing.lends = number(0, 9999); break;
                case "sells": thing.sells = number(0, 9999); break;
                default: thing.worth = number(0, 9999);
            }
        }
    }

    private void set(Book book) {
        Clause c = new Clause();
        do {
            int letter = letter();
            if (letter < 0) {
                throw new Fault(at, 0);
            }
            if (!book.things.containsKey(letter) || (c.bits >> letter & 1) == 1) {
                throw new Fault(at, 5);
            }
            c.bits |= 1 << letter;
            at++;
        } while (!word().equals("earns"));
        must("earns");
        c.amount = number(0, 9999);
        optionalTest(c);
        book.sets.add(c);
    }

    private Rule ruleText() {
        Rule rule = new Rule();
        boolean kept = false;
        int clauses = 0;
        do {
            String word = word();
            if (!word.equals("like") && !word.equals("keep")) {
                throw new Fault(at, 0);
            }
            if (clauses == 12 || word.equals("keep") && kept) {
                throw new Fault(at, 4);
            }
            clauses++;
            at += 4;
            if (word.equals("keep")) {
                kept = true;
                rule.keep = number(0, 9999);
            } else {
                Clause c = new Clause();
                c.sum = sum();
                optionalTest(c);
                rule.likes.add(c);
            }
        } while (hasMore());
        return rule;
    }

    private void optionalTest(Clause c) {
        if (take("if")) {
            c.test = test(0);
        }
    }

    private Test test(int depth) {
        Test test = part(depth);
        while (take("or")) {
            Test left = test;
            Test right = part(depth);
            test = w -> left.of(w) || right.of(w);
        }
        return test;
    }

    private Test part(int depth) {
        Test test = fact(depth);
        while (take("and")) {
            Test left = test;
            Test right = fact(depth);
            test = w -> left.of(w) && right.of(w);
        }
        return test;
    }

    private Test fact(int depth) {
        boolean not = word().equals("not");
        if (not || sign() == '[') {
            if (depth == 10) {
                throw new Fault(at, 2);
            }
            if (not) {
                at += 3;
                Test inner = fact(depth + 1);
                return w -> !inner.of(w);
            }
            at++;
            Test inner = test(depth + 1);
            if (sign() != ']') {
                throw new Fault(at, 0);
            }
            at++;
            return inner;
        }
        Sum left = sum();
        String sign = "";
        for (String s : List.of("<=", ">=", "<", "=", ">")) {
            blanks();
            if (sign.isEmpty() && text.startsWith(s, at)) {
                sign = s;
            }
        }
        if (sign.isEmpty()) {
            throw new Fault(at, 0);
        }
        piece();
        at += sign.length();
        Sum right = sum();
        String which = sign;
        return w -> {
            int order = Long.compare(left.of(w), right.of(w));
            switch (which) {
                case "<": return order < 0;
                case "<=": return order <= 0;
                case "=": return order == 0;
                case ">=": return order >= 0;
                default: return order > 0;
            }
        };
    }

    private Sum sum() {
        Sum sum = term();
        while (sign() == '+' || sign() == '-') {
            boolean plus = sign() == '+';
            at++;
            Sum left = sum;
            Sum right = term();
            sum = w -> plus ? left.of(w) + right.of(w) : left.of(w) - right.of(w);
        }
        return sum;
    }

    private Sum term() {
        Sum sum = value();
        while (sign() == '*' || sign() == '/') {
            boolean times = sign() == '*';
            at++;
            Sum left = sum;
            Sum right = value();
            sum = w -> times ? left.of(w) * right.of(w) : right.of(w) == 0 ? 0 : left.of(w) / right.of(w);
        }
        return sum;
    }

    private Sum value() {
        if (digits() > 0) {
            int start = at;
            int number = number(0, 99999);
            int behind = at;
            at = start;
            piece();
            at = behind;
            return w -> number;
        }
        String word = word();
        List<String> known = ofRule
            ? List.of("owed", "runs", "left", "adds", "worth", "week", "coin", "home", "in")
            : List.of("week", "home", "in");
        if (!known.contains(word)) {
            throw new Fault(at, 0);
        }
        piece();
        at += word.length();
        return w -> w.get(word);
    }

    private void piece() {
        if (pieces == 60) {
            throw new Fault(at, 3);
        }
        pieces++;
    }

    // ---- living ----

    /** One life, by a row (week, sort, thing each) or by a rule. */
    static final class Life {
        int coin;
        int home;
        int gone;
        int bad = -1;
        int broke = -1;
        final List<Integer> coins = new ArrayList<>();
        final List<Integer> homes = new ArrayList<>();
        final Map<Integer, Integer> fetched = new TreeMap<>();
    }

    private static int in(Book b, int home, int gone) {
        return b.all() & ~home & ~gone;
    }

    static long likes(Book b, Rule r, int thing, int week, int home, int in, int coin) {
        Map<String, Long> w = new HashMap<>();
        w.put("owed", (long) b.owed(thing, week));
        w.put("runs", (long) b.things.get(thing).runs);
        w.put("left", b.things.get(thing).lost < 0 ? 9999L : b.things.get(thing).lost - week);
        int more = b.sum(b.sets, week, home | 1 << thing, in & ~(1 << thing));
        w.put("adds", (long) more - b.sum(b.sets, week, home, in));
        w.put("worth", (long) b.things.get(thing).worth);
        w.put("week", (long) week);
        w.put("coin", (long) coin);
        w.put("home", (long) Integer.bitCount(home));
        w.put("in", (long) Integer.bitCount(in));
        for (Clause c : r.likes) {
            if (c.test.of(w)) {
                return c.sum.of(w);
            }
        }
        return 0;
    }

    static Life live(Book b, int[][] row, Rule rule, boolean[] work) {
        Life l = new Life();
        l.coin = b.coin;
        int debt = 0;
        boolean lent = false;
        int next = 0;
        int[] loan = new int[8];
        int[] runs = new int[8];
        int[] since = new int[8];
        boolean[] halved = new boolean[8];
        for (int t : b.things.keySet()) {
            loan[t] = b.things.get(t).loan;
            runs[t] = b.things.get(t).runs;
        }
        for (int week = 0; week < b.weeks; week++) {
            for (int t : b.things.keySet()) {
                if ((l.home >> t & 1) == 0 && b.lostBy(t, week)) {
                    l.gone |= 1 << t;
                }
            }
            if (debt > 0 && week == b.till) {
                if (l.coin < debt) {
                    l.broke = week;
                    return l;
                }
                l.coin -= debt;
                debt = 0;
            }
            while (row != null && next < row.length && row[next][0] == week) {
                int t = row[next][2];
                int bit = 1 << t;
                boolean isIn = (in(b, l.home, l.gone) & bit) != 0;
                int owed = loan[t] + runs[t] * (week - since[t]);
                boolean done = false;
                switch (row[next][1]) {
                    case 0:
                        if (isIn && l.coin >= owed) {
                            done = true;
                            l.coin -= owed;
                            l.home |= bit;
                        }
                        break;
                    case 1:
                        if ((l.home & bit) != 0) {
                            done = true;
                            l.home -= bit;
                            loan[t] = b.things.get(t).lends;
                            runs[t] = b.things.get(t).runs;
                            since[t] = week;
                            halved[t] = false;
                            l.coin += loan[t];
                        }
                        break;
                    case 2:
                        if (isIn) {
                            done = true;
                            l.gone |= bit;
                            l.coin += b.things.get(t).sells;
                        }
                        break;
                    case 3:
                        int half = owed - owed / 2;
                        if (isIn && !halved[t] && l.coin >= half) {
                            done = true;
                            halved[t] = true;
                            l.coin -= half;
                            loan[t] = owed - half;
                            runs[t] /= 2;
                            since[t] = week;
                        }
                        break;
                    default:
                        if (!lent && b.till >= 0 && b.till < b.weeks && week < b.till) {
                            done = true;
                            lent = true;
                            debt = b.lends;
                            l.coin += debt;
                        }
                }
                if (!done) {
                    l.bad = next;
                    return l;
                }
                next++;
            }
            while (rule != null) {
                int best = -1;
                long most = 0;
                for (int t : b.things.keySet()) {
                    int in = in(b, l.home, l.gone);
                    if ((in >> t & 1) != 0 && b.owed(t, week) <= l.coin - rule.keep) {
                        long like = likes(b, rule, t, week, l.home, in, l.coin);
                        if (like > most) {
                            most = like;
                            best = t;
                        }
                    }
                }
                if (best < 0) {
                    break;
                }
                l.coin -= b.owed(best, week);
                l.home |= 1 << best;
                l.fetched.put(best, week);
            }
            int in = in(b, l.home, l.gone);
            if (work == null || work[week]) {
                l.coin += b.sum(b.sets, week, l.home, in);
            }
            int need = b.sum(b.needs, week, l.home, in);
            if (need > l.coin) {
                l.broke = week;
                return l;
            }
            l.coin -= need;
            l.coins.add(l.coin);
            l.homes.add(l.home);
        }
        if (row != null && next < row.length) {
            l.bad = next;
        }
        return l;
    }

    // ---- plans ----

    /** What differs from the plain plans. */
    static final class Case {
        int home = 0;
        int coin;
        int missing = 0;
        int borrow = -1;
        int sell = -1;
        int sellWeek = -1;
    }

    /** Of each week and each set home at its end, every amount of coin that can be there. */
    static List<TreeMap<Integer, TreeSet<Integer>>> plans(Book b, Case c) {
        List<TreeMap<Integer, TreeSet<Integer>>> all = new ArrayList<>();
        TreeMap<Integer, TreeSet<Integer>> now = new TreeMap<>();
        now.put(c.home, new TreeSet<>(List.of(c.coin)));
        for (int week = 0; week < b.weeks; week++) {
            TreeMap<Integer, TreeSet<Integer>> next = new TreeMap<>();
            for (Map.Entry<Integer, TreeSet<Integer>> e : now.entrySet()) {
                for (int coin : e.getValue()) {
                    step(b, c, week, e.getKey(), coin, next);
                }
            }
            all.add(next);
            now = next;
        }
        return all;
    }

    private static void step(Book b, Case c, int week, int home, int had, Map<Integer, TreeSet<Integer>> next) {
        int coin = had;
        if (c.borrow >= 0 && week == b.till) {
            coin -= b.lends;
            if (coin < 0) {
                return;
            }
        }
        if (c.borrow == week) {
            coin += b.lends;
        }
        if (c.sellWeek == week) {
            coin += b.things.get(c.sell).sells;
        }
        int in = 0;
        for (int t : b.things.keySet()) {
            boolean soldBy = c.sell == t && week >= c.sellWeek;
            if ((home >> t & 1) == 0 && !b.lostBy(t, week) && (c.missing >> t & 1) == 0 && !soldBy) {
                in |= 1 << t;
            }
        }
        for (int set = 0; set < 256; set++) {
            if ((set & ~in) != 0 || c.sell >= 0 && (set >> c.sell & 1) != 0) {
                continue;
            }
            int left = coin;
            for (int t : b.things.keySet()) {
                left -= (set >> t & 1) * b.owed(t, week);
            }
            if (left < 0) {
                continue;
            }
            left += b.sum(b.sets, week, home | set, in & ~set);
            left -= b.sum(b.needs, week, home | set, in & ~set);
            if (left >= 0) {
                next.computeIfAbsent(home | set, k -> new TreeSet<>()).add(left);
            }
        }
    }

    static int best(Book b, Case c) {
        int best = -1;
        for (TreeSet<Integer> coins : plans(b, c).get(b.weeks - 1).values()) {
            best = Math.max(best, coins.last());
        }
        return best;
    }

    static int[] fetchWeeks(Book b, List<TreeMap<Integer, TreeSet<Integer>>> plans, int end) {
        int[] weeks = {-1, -1, -1, -1, -1, -1, -1, -1};
        int home = end;
        for (int week = b.weeks - 1; week >= 0; week--) {
            TreeMap<Integer, TreeSet<Integer>> ahead = new TreeMap<>();
            if (week == 0) {
                ahead.put(0, new TreeSet<>(List.of(b.coin)));
            } else {
                ahead = plans.get(week - 1);
            }
            int found = -1;
            for (int from : ahead.keySet()) {
                for (int coin : ahead.get(from)) {
                    TreeMap<Integer, TreeSet<Integer>> to = new TreeMap<>();
                    step(b, new Case(), week, from, coin, to);
                    boolean leads = to.containsKey(home)
                        && to.get(home).last().equals(plans.get(week).get(home).last());
                    if (found < 0 && leads) {
                        found = from;
                    }
                }
            }
            for (int t = 0; t < 8; t++) {
                if (((home & ~found) >> t & 1) != 0) {
                    weeks[t] = week;
                }
            }
            home = found;
        }
        return weeks;
    }
}
