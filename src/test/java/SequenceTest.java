import java.util.ArrayList;
import java.util.List;
import java.util.TreeMap;
import java.util.TreeSet;

/**
 * Many calls on one object in any order, texts, rows and images among them: each answer must be the
 * one that the TAPE, the BOOK, the RULES, the ROW and the IMAGES of that moment ask for.
 */
public final class SequenceTest {
    private static final int MOST_CALLS = 512;

    private record Image(Model.Book book, List<int[]> row) {
    }

    private final MadeUp made;
    private final OutOfPawn x = new OutOfPawn();
    private final List<String> said = new ArrayList<>();
    private final List<Model.Rule> rules = new ArrayList<>();
    private final Image[] images = new Image[4];
    private String tape = "";
    private Model.Book book = new Model.Book();
    private List<int[]> row = new ArrayList<>();
    private int calls = 0;

    private SequenceTest(MadeUp made) {
        this.made = made;
    }

    private void due(String call, long got, long want) {
        calls++;
        said.add(call);
        Check.due((got == want ? "" : said + ": ") + call, got, want);
    }

    private int oneOf(int... numbers) {
        return numbers[made.any(numbers.length)];
    }

    // ---- calls that change something ----

    private static int four(String text, int at) {
        int number = 0;
        for (int i = at; i < at + 4; i++) {
            number = number << 8 | (i < text.length() ? text.charAt(i) : 0);
        }
        return number;
    }

    private void feed(String twenty) {
        String padded = twenty + "\0".repeat(20 - twenty.length());
        boolean fits = tape.length() + 20 <= 400;
        int[] n = {four(padded, 0), four(padded, 4), four(padded, 8), four(padded, 12), four(padded, 16)};
        tape = fits ? tape + padded : tape;
        due("feed " + twenty, x.feed(n[0], n[1], n[2], n[3], n[4]), fits ? tape.length() : -1);
    }

    private void end(int n) {
        boolean can = n >= 0 && n <= tape.length();
        tape = can ? tape.substring(0, n) : tape;
        due("end " + n, x.end(n), can ? n : -1);
    }

    private void feedAll(String text) {
        String before = tape;
        for (int at = 0; at < text.length() && tape.length() + 20 <= 400; at += 20) {
            feed(text.substring(at, Math.min(text.length(), at + 20)));
        }
        end(Math.min(tape.length(), before.length() + text.length()));
    }

    private String someBook() {
        String text = made.bookText(made.any(4), 1 + made.any(5));
        return made.any(4) == 0 ? made.mangled(text) : text;
    }

    private String someRule() {
        String text = made.ruleText();
        return made.any(4) == 0 ? made.mangled(text) : text;
    }

    private void book() {
        int want;
        try {
            book = Model.readBook(tape);
            row = new ArrayList<>();
            want = book.things.size();
        } catch (Model.Fault f) {
            want = -2 - f.number;
        }
        tape = "";
        due("book", x.book(), want);
    }

    private void rule() {
        if (rules.size() == 6) {
            due("rule", x.rule(), -1);
            return;
        }
        int want;
        try {
            rules.add(Model.readRule(tape));
            want = rules.size() - 1;
        } catch (Model.Fault f) {
            want = -2 - f.number;
        }
        tape = "";
        due("rule", x.rule(), want);
    }

    private void act() {
        int week = oneOf(0, 0, 1, 1, 2, 3, 4, 5, 60, 61, -1);
        int sort = made.any(60) == 0 ? oneOf(-1, 5) : made.any(5);
        int thing = made.any(30) == 0 ? oneOf(-1, 8) : sort == 4 && made.any(4) > 0 ? 0 : made.any(4);
        boolean told = sort == 4 ? thing == 0 : sort >= 0 && sort < 4 && book.things.containsKey(thing);
        boolean after = row.isEmpty() || row.get(row.size() - 1)[0] <= week;
        boolean can = told && after && week >= 0 && week <= 60 && row.size() < 60;
        if (can) {
            row.add(new int[] {week, sort, thing});
        }
        due("act " + week + " " + sort + " " + thing, x.act(week, sort, thing), can ? row.size() : -1);
    }

    private void row() {
        int n = row.isEmpty() ? made.any(2) : made.any(row.size() + 2) - (made.any(20) == 0 ? 1 : 0);
        boolean can = n >= 0 && n <= row.size();
        row = can ? new ArrayList<>(row.subList(0, n)) : row;
        due("row " + n, x.row(n) ? 1 : 0, can ? 1 : 0);
    }

    private void image() {
        int k = made.any(6) - 1;
        boolean can = k >= 0 && k < 4;
        if (can) {
            images[k] = new Image(book, new ArrayList<>(row));
        }
        due("image " + k, x.image(k), can ? row.size() : -1);
    }

    private void back() {
        int k = made.any(6) - 1;
        boolean can = k >= 0 && k < 4 && images[k] != null;
        if (can) {
            book = images[k].book();
            row = new ArrayList<>(images[k].row());
        }
        due("back " + k, x.back(k), can ? row.size() : -1);
    }

    // ---- calls that ask ----

    private int[][] acts() {
        return row.toArray(new int[0][]);
    }

    private void askCounts() {
        int what = made.any(13) - 1;
        int[] counts = {book.all(), book.weeks, book.coin, book.luck, book.lends, book.till, book.sets.size(),
            book.needs.size(), rules.size(), row.size(), tape.length()};
        due("count " + what, x.count(what), what >= 0 && what < counts.length ? counts[what] : -2);
        int thing = made.any(9) - 1;
        Model.Thing t = book.things.get(thing);
        int of = made.any(7) - 1;
        int[] facts = t == null ? new int[0] : new int[] {t.loan, t.runs, t.lost, t.lends, t.sells, t.worth};
        due("thing " + thing + " " + of, x.thing(thing, of), of >= 0 && of < facts.length ? facts[of] : -2);
    }

    private void askRow() {
        Model.Life l = Model.live(book, acts(), null, null);
        int what = made.any(6);
        int[] judged = {l.bad, l.broke, l.coin, l.home, l.gone, -2};
        due("judged " + what, x.judged(what), judged[what]);
        int week = made.any(7) - 1;
        boolean there = week >= 0 && week < l.coins.size();
        due("then " + week + " 0", x.then(week, 0), there ? l.coins.get(week) : -2);
        due("then " + week + " 1", x.then(week, 1), there ? l.homes.get(week) : -2);
        due("then " + week + " 2", x.then(week, 2), -2);
    }

    private Model.Case plain() {
        Model.Case c = new Model.Case();
        c.coin = book.coin;
        return c;
    }

    private void askPlans() {
        List<TreeMap<Integer, TreeSet<Integer>>> plans = Model.plans(book, plain());
        int best = Model.best(book, plain());
        int states = 0;
        int end = -1;
        for (TreeMap<Integer, TreeSet<Integer>> week : plans) {
            states += week.size();
        }
        for (int set : plans.get(book.weeks - 1).keySet()) {
            end = end < 0 && plans.get(book.weeks - 1).get(set).last() == best ? set : end;
        }
        due("best 3", x.best(3), states);
        due("best 0", x.best(0), best < 0 ? -2 : best);
        due("best 1", x.best(1), best < 0 ? -2 : end);
        int thing = made.any(5);
        boolean there = book.things.containsKey(thing);
        int fetched = there && best >= 0 ? Model.fetchWeeks(book, plans, end)[thing] : -2;
        due("fetched " + thing, x.fetched(thing), there ? fetched : -3);
        Model.Case without = plain();
        without.missing = 1 << thing;
        int hangs = best < 0 ? -2 : best - Math.max(0, Model.best(book, without));
        due("hangs " + thing, x.hangs(thing), there ? hangs : -1);
    }

    private void askRules() {
        int r = made.any(7);
        if (r >= rules.size()) {
            due("ruled " + r + " 0", x.ruled(r, 0), -2);
            due("goes " + r + " 1 1", x.goes(r, 1, 1), -1);
            return;
        }
        Model.Life l = Model.live(book, null, rules.get(r), null);
        due("ruled " + r + " 0", x.ruled(r, 0), l.coin);
        due("ruled " + r + " 1", x.ruled(r, 1), l.home);
        due("ruled " + r + " 2", x.ruled(r, 2), l.broke);
        int best = Model.best(book, plain());
        due("ruled " + r + " 3", x.ruled(r, 3), l.broke >= 0 || best < 0 ? -1000000 : best - l.coin);
    }

    private void askSets() {
        int set = made.any(16);
        int week = made.any(8);
        boolean there = (set & ~book.all()) == 0;
        int in = book.all() & ~set;
        due("earned " + set + " " + week, x.earned(set, week, 0), there ? book.sum(book.sets, week, set, in) : -1);
        int thing = made.any(4);
        for (int r = 0; r < rules.size(); r++) {
            boolean liked = there && (in >> thing & 1) != 0 && week < book.weeks;
            long likes = liked ? Model.likes(book, rules.get(r), thing, week, set, in, 9) : 0;
            due("likes " + r + " " + thing + " " + week + " " + set, x.likes(r, thing, week, set, 9), likes);
        }
    }

    private void change() {
        switch (made.any(12)) {
            case 0: feed(made.any(3) == 0 ? "like adds+1;" : "thing a 7 1;"); break;
            case 1: end(made.any(tape.length() + 3) - 1); break;
            case 2: image(); break;
            case 3: back(); break;
            case 4: row(); break;
            case 5: tellBook(); break;
            case 6: tellRule(); break;
            default: act(); break;
        }
    }

    private void tellBook() {
        if (made.any(5) > 0) {
            end(0);
        }
        feedAll(someBook());
        book();
    }

    private void tellRule() {
        if (made.any(5) > 0) {
            end(0);
        }
        feedAll(someRule());
        rule();
    }

    private void ask() {
        switch (made.any(5)) {
            case 0: askCounts(); break;
            case 1: askRow(); break;
            case 2: askPlans(); break;
            case 3: askRules(); break;
            default: askSets(); break;
        }
    }

    private void run() {
        while (calls < MOST_CALLS - 40 && Check.allWell()) {
            change();
            if (made.any(2) == 0) {
                ask();
            }
        }
    }

    public static void main(String[] args) {
        int times = args.length > 1 ? Integer.parseInt(args[1]) : 1;
        MadeUp made = new MadeUp(args.length > 2 ? Long.parseLong(args[2]) : 13);
        for (int i = 0; i < 300 * times && Check.allWell(); i++) {
            new SequenceTest(made).run();
        }
        Check.finish("SequenceTest");
    }
}
