import java.util.List;
import java.util.TreeMap;
import java.util.TreeSet;

/** Made-up books, rows and rules: the class against the plain and slow model of the document. */
public final class ModelTest {
    /** Reads one book after the other, so that what is left of the last one would show. */
    private final OutOfPawn worn = new OutOfPawn();
    private final MadeUp made;

    private ModelTest(long seed) {
        made = new MadeUp(seed);
    }

    private int[][] actsFor(OutOfPawn x, Model.Book b) {
        int[][] row = new int[made.any(7)][];
        int week = 0;
        int[] letters = b.things.keySet().stream().mapToInt(t -> t).toArray();
        for (int i = 0; i < row.length; i++) {
            week = Math.min(60, week + (made.any(3) == 0 ? made.any(3) : 0));
            int sort = letters.length == 0 ? 4 : made.any(5);
            row[i] = new int[] {week, sort, sort == 4 ? 0 : letters[made.any(letters.length)]};
            Check.due("act", x.act(row[i][0], row[i][1], row[i][2]), i + 1);
        }
        return row;
    }

    // ---- comparing ----

    private static int orLacking(int coin) {
        return coin < 0 ? -2 : coin;
    }

    private static Model.Case plain(Model.Book b) {
        Model.Case c = new Model.Case();
        c.coin = b.coin;
        return c;
    }

    private static void comparePlans(String text, OutOfPawn x, Model.Book b) {
        List<TreeMap<Integer, TreeSet<Integer>>> plans = Model.plans(b, plain(b));
        int states = 0;
        int ever = 0;
        int soon = -1;
        for (int week = 0; week < b.weeks; week++) {
            states += plans.get(week).size();
            for (int set : plans.get(week).keySet()) {
                ever |= set;
            }
            soon = soon < 0 && plans.get(week).containsKey(b.all()) ? week : soon;
        }
        int best = Model.best(b, plain(b));
        int end = -1;
        int richest = -1;
        for (int set : plans.get(b.weeks - 1).keySet()) {
            int coin = plans.get(b.weeks - 1).get(set).last();
            end = end < 0 && coin == best ? set : end;
            int worth = 0;
            for (int t : b.things.keySet()) {
                worth += (set >> t & 1) * b.things.get(t).worth;
            }
            richest = Math.max(richest, coin + worth);
        }
        Check.due(text + " soon", x.soon(), soon);
        Check.due(text + " best 0", x.best(0), orLacking(best));
        Check.due(text + " best 1", x.best(1), best < 0 ? -2 : end);
        Check.due(text + " best 2", x.best(2), best < 0 ? -2 : richest);
        Check.due(text + " best 3", x.best(3), states);
        Check.due(text + " best 4", x.best(4), b.all() & ~ever);
        Check.due(text + " best 5", x.best(5), best < 0 ? -2 : b.all() & ~end);
        int[] weeks = best < 0 ? null : Model.fetchWeeks(b, plans, end);
        int key = -2;
        int most = 0;
        for (int t : b.things.keySet()) {
            Check.due(text + " fetched " + t, x.fetched(t), best < 0 ? -2 : weeks[t]);
            Model.Case without = plain(b);
            without.missing = 1 << t;
            int hangs = best - Math.max(0, Model.best(b, without));
            Check.due(text + " hangs " + t, x.hangs(t), best < 0 ? -2 : hangs);
            boolean cheaper = key >= 0 && hangs == most && b.things.get(t).loan < b.things.get(key).loan;
            if (best >= 0 && (key < 0 || hangs > most || cheaper)) {
                key = t;
                most = hangs;
            }
            Model.Case kept = plain(b);
            kept.home = 1 << t;
            kept.coin = b.coin - b.things.get(t).loan;
            int bestKept = kept.coin < 0 ? -1 : Model.best(b, kept);
            Check.due(text + " wise " + t, x.wise(t), best < 0 || bestKept < 0 ? -1000000 : best - bestKept);
            compareSelling(text, x, b, t, best);
        }
        Check.due(text + " key", x.key(), key);
        compareBorrowing(text, x, b, best);
    }

    private static void compareSelling(String text, OutOfPawn x, Model.Book b, int thing, int best) {
        int when = -2;
        int most = best;
        for (int week = 0; week < b.weeks; week++) {
            Model.Case c = plain(b);
            c.sell = thing;
            c.sellWeek = week;
            int coin = b.lostBy(thing, week) ? -1 : Model.best(b, c);
            Check.due(text + " sold " + thing + " " + week, x.sold(thing, week), orLacking(coin));
            if (coin > most) {
                most = coin;
                when = week;
            }
        }
        Check.due(text + " selling " + thing, x.selling(thing), when);
    }

    private static void compareBorrowing(String text, OutOfPawn x, Model.Book b, int best) {
        int when = -2;
        int most = best;
        for (int week = 0; week < b.weeks; week++) {
            Model.Case c = plain(b);
            c.borrow = week;
            int coin = b.till < 0 || b.till >= b.weeks || b.till <= week ? -1 : Model.best(b, c);
            Check.due(text + " borrowed " + week, x.borrowed(week), orLacking(coin));
            if (coin > most) {
                most = coin;
                when = week;
            }
        }
        Check.due(text + " when", x.when(), when);
    }

    private static void compareRow(String text, OutOfPawn x, Model.Book b, int[][] row) {
        Model.Life l = Model.live(b, row, null, null);
        Check.due(text + " judged 0", x.judged(0), l.bad);
        Check.due(text + " judged 1", x.judged(1), l.broke);
        Check.due(text + " judged 2", x.judged(2), l.coin);
        Check.due(text + " judged 3", x.judged(3), l.home);
        Check.due(text + " judged 4", x.judged(4), l.gone);
        for (int week = 0; week < b.weeks + 1; week++) {
            boolean there = week < l.coins.size();
            Check.due(text + " then " + week + " 0", x.then(week, 0), there ? l.coins.get(week) : -2);
            Check.due(text + " then " + week + " 1", x.then(week, 1), there ? l.homes.get(week) : -2);
        }
    }

    private static boolean[] draw(Model.Book b, long[] x) {
        boolean[] work = new boolean[b.weeks];
        for (int week = 0; week < b.weeks; week++) {
            x[0] = (x[0] * 1103515245L + 12345L) % 2147483648L;
            work[week] = x[0] / 65536 % 1000 < b.luck;
        }
        return work;
    }

    private void compareChances(String text, OutOfPawn x, Model.Book b, int[][] row, List<Model.Rule> rules) {
        int first = made.any(5) == 0 ? 2147483647 - made.any(3) : made.any(1000000);
        int n = 1 + made.any(made.any(6) == 0 ? 100 : 10);
        long[] drawn = {first};
        int holds = 0;
        int[] goes = new int[rules.size()];
        for (int i = 0; i < n; i++) {
            boolean[] work = draw(b, drawn);
            Model.Life l = Model.live(b, row, null, work);
            holds += l.bad < 0 && l.broke < 0 ? 1 : 0;
            for (int r = 0; r < goes.length; r++) {
                Model.Life by = Model.live(b, null, rules.get(r), work);
                goes[r] += by.broke < 0 && by.home == b.all() ? 1 : 0;
            }
        }
        Check.due(text + " holds", x.holds(first, n), holds);
        for (int r = 0; r < goes.length; r++) {
            Check.due(text + " goes " + r, x.goes(r, first, n), goes[r]);
        }
        long sure = 0;
        for (int bits = 0; bits < 1 << b.weeks; bits++) {
            boolean[] work = new boolean[b.weeks];
            long chance = 1000000000;
            for (int week = 0; week < b.weeks; week++) {
                work[week] = (bits >> week & 1) == 1;
                chance = chance * (work[week] ? b.luck : 1000 - b.luck) / 1000;
            }
            Model.Life l = Model.live(b, row, null, work);
            sure += l.bad < 0 && l.broke < 0 ? chance : 0;
        }
        Check.due(text + " surely", x.surely(), sure);
    }

    private static void compareRules(String text, OutOfPawn x, Model.Book b, List<Model.Rule> rules) {
        int best = Model.best(b, plain(b));
        int finest = -2;
        int most = -1;
        for (int r = 0; r < rules.size(); r++) {
            Model.Life l = Model.live(b, null, rules.get(r), null);
            Check.due(text + " ruled 0", x.ruled(r, 0), l.coin);
            Check.due(text + " ruled 1", x.ruled(r, 1), l.home);
            Check.due(text + " ruled 2", x.ruled(r, 2), l.broke);
            Check.due(text + " ruled 3", x.ruled(r, 3), l.broke >= 0 || best < 0 ? -1000000 : best - l.coin);
            if (l.broke < 0 && l.coin > most) {
                most = l.coin;
                finest = r;
            }
            for (int o = 0; o < rules.size(); o++) {
                Model.Life other = Model.live(b, null, rules.get(o), null);
                int parts = 0;
                for (int t : b.things.keySet()) {
                    parts += l.fetched.getOrDefault(t, -1).equals(other.fetched.getOrDefault(t, -1)) ? 0 : 1;
                }
                Check.due(text + " parts", x.parts(r, o), r == o ? -1 : parts);
            }
        }
        Check.due(text + " finest", x.finest(), finest);
    }

    private void compareSets(String text, OutOfPawn x, Model.Book b, List<Model.Rule> rules) {
        for (int i = 0; i < 12; i++) {
            int set = made.any(256) & b.all();
            int week = made.any(61);
            int in = b.all() & ~set;
            Check.due(text + " earned 0", x.earned(set, week, 0), b.sum(b.sets, week, set, in));
            Check.due(text + " earned 1", x.earned(set, week, 1), b.sum(b.needs, week, set, in));
            int needed = 0;
            boolean lost = false;
            for (int t : b.things.keySet()) {
                Check.due(text + " owed", x.owed(t, week), b.owed(t, week));
                if ((set >> t & 1) == 0) {
                    needed += b.owed(t, week);
                    lost |= b.lostBy(t, week);
                    int now = made.any(b.weeks);
                    int coin = made.any(50);
                    for (int r = 0; r < rules.size(); r++) {
                        long likes = Model.likes(b, rules.get(r), t, now, set, in, coin);
                        Check.due(text + " likes", x.likes(r, t, now, set, coin), likes);
                    }
                    Check.due(text + " pays", x.pays(t, set, week), -1);
                } else {
                    Check.due(text + " pays", x.pays(t, set, week), pays(b, t, set, week));
                }
            }
            Check.due(text + " needed", x.needed(set, week), lost ? -2 : needed);
            int n = made.any(9);
            int best = -1;
            int most = -1;
            for (int s = 0; s < 256; s++) {
                if ((s & ~b.all()) == 0 && Integer.bitCount(s) == n && b.sum(b.sets, week, s, b.all() & ~s) > most) {
                    most = b.sum(b.sets, week, s, b.all() & ~s);
                    best = s;
                }
            }
            Check.due(text + " most", x.most(week, n), best);
        }
    }

    private static int pays(Model.Book b, int thing, int set, int week) {
        int paid = 0;
        for (int k = 1; k <= 200; k++) {
            int without = set & ~(1 << thing);
            paid += b.sum(b.sets, week + k - 1, set, b.all() & ~set);
            paid -= b.sum(b.sets, week + k - 1, without, b.all() & ~without);
            if (paid >= b.owed(thing, week)) {
                return k;
            }
        }
        return -2;
    }

    private void compareAll(int things, int weeks) {
        String text = made.bookText(things, weeks);
        if (text.length() > 400) {
            return;
        }
        Model.Book b;
        OutOfPawn x = new OutOfPawn();
        try {
            b = Model.readBook(text);
        } catch (Model.Fault f) {
            Check.due(text + " book", Check.book(x, text), -2 - f.number);
            return;
        }
        Check.due(text + " book", Check.book(x, text), b.things.size());
        List<Model.Rule> rules = new java.util.ArrayList<>();
        for (int i = made.any(4); i > 0; i--) {
            String rule = made.ruleText();
            try {
                Model.Rule r = Model.readRule(rule.substring(0, Math.min(400, rule.length())));
                Check.due(rule, Check.rule(x, rule.substring(0, Math.min(400, rule.length()))), rules.size());
                rules.add(r);
            } catch (Model.Fault f) {
                Check.due(rule, Check.rule(x, rule.substring(0, Math.min(400, rule.length()))), -2 - f.number);
            }
        }
        int[][] row = actsFor(x, b);
        compareRow(text, x, b, row);
        compareRules(text, x, b, rules);
        compareSets(text, x, b, rules);
        comparePlans(text, x, b);
        Check.due(text + " book again", Check.book(worn, text), b.things.size());
        compareRow(text + " (worn)", worn, b, new int[0][]);
        comparePlans(text + " (worn)", worn, b);
        if (weeks <= 6) {
            compareChances(text, x, b, row, rules);
        }
    }

    private void compareFaults() {
        OutOfPawn x = new OutOfPawn();
        String text = made.mangled(made.bookText(made.any(5), 4));
        int due;
        try {
            due = Model.readBook(text).things.size();
        } catch (Model.Fault f) {
            due = -2 - f.number;
        }
        Check.due("book " + text, Check.book(x, text), due);
        String rule = made.mangled(made.ruleText());
        try {
            Model.readRule(rule);
            due = 0;
        } catch (Model.Fault f) {
            due = -2 - f.number;
        }
        Check.due("rule " + rule, Check.rule(x, rule), due);
    }

    public static void main(String[] args) {
        int times = args.length > 1 ? Integer.parseInt(args[1]) : 1;
        ModelTest test = new ModelTest(args.length > 2 ? Long.parseLong(args[2]) : 7);
        for (int i = 0; i < 600 * times && Check.allWell(); i++) {
            test.compareAll(test.made.any(4), 1 + test.made.any(6));
        }
        for (int i = 0; i < 40 * times && Check.allWell(); i++) {
            test.compareAll(3 + test.made.any(3), 5 + test.made.any(4));
        }
        for (int i = 0; i < 6 * times && Check.allWell(); i++) {
            test.compareAll(test.made.any(3), 30 + test.made.any(31));
        }
        for (int i = 0; i < 20000 * times && Check.allWell(); i++) {
            test.compareFaults();
        }
        Check.finish("ModelTest");
    }
}
