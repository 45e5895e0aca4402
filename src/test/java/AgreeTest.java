import java.util.TreeMap;

/**
 * Calls that tell the same thing in two ways must agree: PLANS with every ROW of FETCHES tried one
 * by one, RULES with the ROW that their likings make. No model of the document is asked here.
 */
public final class AgreeTest {
    private static final int FETCH = 0;
    private static final int SELL = 2;
    private static final int BORROW = 4;

    private final MadeUp made;
    private OutOfPawn x;
    private String text;
    private int[] letters;
    private int weeks;

    /** What the rows tried so far came to: the most coin by what is HOME at the end, and the STATES. */
    private TreeMap<Integer, Integer> ends;
    private TreeMap<Integer, Integer> states;

    private AgreeTest(long seed) {
        made = new MadeUp(seed);
    }

    private void due(String what, long got, long want) {
        Check.due(text + ": " + what, got, want);
    }

    private boolean open(String itsText) {
        text = itsText;
        x = new OutOfPawn();
        if (text.length() > 400 || Check.book(x, text) < 0) {
            return false;
        }
        weeks = x.count(1);
        letters = new int[Integer.bitCount(x.count(0))];
        int at = 0;
        for (int thing = 0; thing < 8; thing++) {
            if ((x.count(0) >> thing & 1) != 0) {
                letters[at++] = thing;
            }
        }
        return true;
    }

    // ---- every plan as a row ----

    /** Tries each WEEK, or none, for each THING but one, an ACT more ahead of the others of its WEEK. */
    private void tryAll(int without, int[] more) {
        ends = new TreeMap<>();
        states = new TreeMap<>();
        int ways = 1;
        for (int i = 0; i < letters.length; i++) {
            ways *= weeks + 1;
        }
        for (int way = 0; way < ways; way++) {
            int[] fetches = new int[8];
            int left = way;
            boolean isOne = false;
            for (int thing : letters) {
                fetches[thing] = left % (weeks + 1);
                left /= weeks + 1;
                isOne |= thing == without && fetches[thing] != weeks;
            }
            if (!isOne) {
                tell(fetches, more);
                look();
            }
        }
    }

    private void tell(int[] fetches, int[] more) {
        x.row(0);
        for (int week = 0; week < weeks; week++) {
            if (more.length > 0 && more[0] == week) {
                x.act(more[0], more[1], more[2]);
            }
            for (int thing : letters) {
                if (fetches[thing] == week) {
                    x.act(week, FETCH, thing);
                }
            }
        }
    }

    private void look() {
        for (int week = 0; week < weeks && x.then(week, 1) >= 0; week++) {
            states.merge(week * 256 + x.then(week, 1), x.then(week, 0), Math::max);
        }
        if (x.judged(0) < 0 && x.judged(1) < 0) {
            ends.merge(x.judged(3), x.judged(2), Math::max);
        }
    }

    private int bestTried() {
        return ends.values().stream().mapToInt(coin -> coin).max().orElse(-2);
    }

    private void comparePlans() {
        tryAll(-1, new int[0]);
        int best = bestTried();
        int end = -2;
        int richest = -2;
        for (int home : ends.keySet()) {
            int worth = 0;
            for (int thing : letters) {
                worth += (home >> thing & 1) * x.thing(thing, 5);
            }
            richest = Math.max(richest, ends.get(home) + worth);
            end = end < 0 && ends.get(home) == best ? home : end;
        }
        int soon = -1;
        int ever = 0;
        for (int state : states.keySet()) {
            ever |= state % 256;
            soon = soon < 0 && state % 256 == x.count(0) ? state / 256 : soon;
        }
        due("best 0", x.best(0), best);
        due("best 1", x.best(1), end);
        due("best 2", x.best(2), richest);
        due("best 3", x.best(3), states.size());
        due("best 4", x.best(4), x.count(0) & ~ever);
        due("best 5", x.best(5), best < 0 ? -2 : x.count(0) & ~end);
        due("soon", x.soon(), soon);
        if (best >= 0) {
            comparePlan(best, end);
        }
        compareSelling(best);
        compareBorrowing(best);
    }

    /** THE PLAN as a ROW: it comes to BEST and END, and has the most coin in each of its STATES. */
    private void comparePlan(int best, int end) {
        int[] fetches = new int[8];
        for (int thing : letters) {
            fetches[thing] = x.fetched(thing) < 0 ? weeks : x.fetched(thing);
        }
        tell(fetches, new int[0]);
        due("the plan is done", x.judged(0), -1);
        due("the plan is not broke", x.judged(1), -1);
        due("the plan's coin", x.judged(2), best);
        due("the plan's end", x.judged(3), end);
        for (int week = 0; week < weeks; week++) {
            due("the plan's coin in week " + week, x.then(week, 0), states.get(week * 256 + x.then(week, 1)));
        }
    }

    private void compareSelling(int best) {
        for (int thing : letters) {
            int most = best;
            int when = -2;
            for (int week = 0; week < weeks; week++) {
                tryAll(thing, new int[] {week, SELL, thing});
                due("sold " + thing + " " + week, x.sold(thing, week), bestTried());
                if (bestTried() > most) {
                    most = bestTried();
                    when = week;
                }
            }
            due("selling " + thing, x.selling(thing), when);
        }
    }

    private void compareBorrowing(int best) {
        int most = best;
        int when = -2;
        for (int week = 0; week < weeks; week++) {
            tryAll(-1, new int[] {week, BORROW, 0});
            due("borrowed " + week, x.borrowed(week), bestTried());
            if (bestTried() > most) {
                most = bestTried();
                when = week;
            }
        }
        due("when", x.when(), when);
    }

    /** A THING without which one does is one whose ticket is sold for nothing at the very beginning. */
    private void compareHanging() {
        int best = x.best(0);
        int key = -2;
        int most = 0;
        for (int thing : letters) {
            int without = Math.max(0, x.sold(thing, 0));
            int hangs = best - without;
            due("hangs " + thing, x.hangs(thing), best < 0 ? -2 : hangs);
            boolean cheaper = key >= 0 && hangs == most && x.thing(thing, 0) < x.thing(key, 0);
            if (best >= 0 && (key < 0 || hangs > most || cheaper)) {
                key = thing;
                most = hangs;
            }
        }
        due("key", x.key(), key);
    }

    // ---- rules as rows ----

    /** Of a BOOK in which nothing is lost: what the RULE likes by `likes` is fetched, act by act. */
    private void compareRule(int rule, int keep) {
        x.row(0);
        for (int week = 0; week < weeks; week++) {
            int coin = week == 0 ? x.count(2) : x.then(week - 1, 0);
            int home = week == 0 ? 0 : x.then(week - 1, 1);
            for (int thing = liked(rule, keep, week, home, coin); thing >= 0 && coin >= 0;
                thing = liked(rule, keep, week, home, coin)) {
                coin -= x.owed(thing, week);
                home |= 1 << thing;
                x.act(week, FETCH, thing);
            }
        }
        due("a liked row is done", x.judged(0), x.judged(1) < 0 ? -1 : x.judged(0));
        due("ruled 0", x.ruled(rule, 0), x.judged(2));
        due("ruled 1", x.ruled(rule, 1), x.judged(3));
        due("ruled 2", x.ruled(rule, 2), x.judged(1));
        boolean loses = x.judged(1) < 0 && x.best(0) >= 0;
        due("ruled 3", x.ruled(rule, 3), loses ? x.best(0) - x.judged(2) : -1000000);
    }

    private int liked(int rule, int keep, int week, int home, int coin) {
        int liked = -1;
        long most = 0;
        for (int thing : letters) {
            boolean canBe = (home >> thing & 1) == 0 && x.owed(thing, week) <= coin - keep;
            long likes = canBe ? x.likes(rule, thing, week, home, coin) : 0;
            if (likes > most) {
                most = likes;
                liked = thing;
            }
        }
        return liked;
    }

    private void compareRules() {
        for (int i = 0; i < 3; i++) {
            String rule = made.ruleText();
            int keep = rule.contains("keep ") ? Integer.parseInt(rule.substring(rule.indexOf("keep ") + 5)) : 0;
            if (rule.length() <= 400 && Check.rule(x, rule) == i) {
                text = text + " | " + rule;
                compareRule(i, keep);
            } else {
                return;
            }
        }
    }

    // ---- chances ----

    /** Times drawn in one call are those drawn one by one, each from the seed that the last one left. */
    private void compareChances() {
        x.row(0);
        for (int thing : letters) {
            x.act(made.any(2), FETCH, thing);
        }
        int n = 1 + made.any(12);
        long seed = made.any(2147483647);
        int holds = 0;
        int first = (int) seed;
        for (int i = 0; i < n; i++) {
            holds += x.holds((int) seed, 1);
            for (int week = 0; week < weeks; week++) {
                seed = (seed * 1103515245L + 12345L) % 2147483648L;
            }
        }
        due("holds", x.holds(first, n), holds);
        boolean well = x.judged(0) < 0 && x.judged(1) < 0;
        if (x.count(3) == 1000) {
            due("surely, always with work", x.surely(), well ? 1000000000 : 0);
            due("holds, always with work", x.holds(first, n), well ? n : 0);
        }
    }

    private void run(int things, int weeksTold) {
        String book = made.bookText(things, weeksTold);
        if (!open(book)) {
            return;
        }
        comparePlans();
        compareChances();
        if (open(book.replaceAll(" sells [0-9]+", ""))) {
            compareHanging();
        }
        if (open(book.replaceAll(" lost [0-9]+", ""))) {
            compareRules();
        }
    }

    public static void main(String[] args) {
        int times = args.length > 1 ? Integer.parseInt(args[1]) : 1;
        AgreeTest test = new AgreeTest(args.length > 2 ? Long.parseLong(args[2]) : 11);
        for (int i = 0; i < 300 * times && Check.allWell(); i++) {
            test.run(test.made.any(3), 1 + test.made.any(6));
            test.run(1 + test.made.any(3), 1 + test.made.any(3));
        }
        Check.finish("AgreeTest");
    }
}
