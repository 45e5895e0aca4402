/**
 * Things in pawn, what they cost by the week and earn at home, and how best to get them out.
 * What each call answers is told by ../shared/DOC.md, promise by promise.
 */
public final class OutOfPawn {
    public static final int NONE = -1;

    private static final int LACKING = -2;
    private static final int NO_SUCH = -3;
    private static final int NO_LOSS = -1000000;
    private static final int NO_SUCH_WISDOM = -2000000;

    private static final int TAPE_BYTES = 400;
    private static final int FEED_BYTES = 20;
    private static final int THINGS = 8;
    private static final int SETS = 256;
    private static final int MOST_WEEKS = 60;
    private static final int PLAIN_WEEKS = 12;
    private static final int BOOK_CLAUSES = 24;
    private static final int RULE_CLAUSES = 12;
    private static final int MOST_RULES = 6;
    private static final int MOST_ACTS = 60;
    private static final int MOST_IMAGES = 4;
    private static final int MOST_PIECES = 60;
    private static final int MOST_DEPTH = 10;
    private static final int MOST_DIGITS = 5;
    private static final int CODE_STEPS = 512;
    private static final int STACK_CELLS = 64;
    private static final int MOST_AMOUNT = 9999;
    private static final int MOST_RUNS = 999;
    private static final int NEVER_LEFT = 9999;
    private static final int MOST_TIMES = 100;
    private static final int SURE_WEEKS = 10;
    private static final int SURE = 1000000000;
    private static final int THOUSAND = 1000;
    private static final int MOST_COIN = 99999;
    private static final int PAYING_WEEKS = 200;
    private static final long ALWAYS_WORK = -1L;

    // The kinds of a token: a word's kind is its place in WORDS.
    private static final String WORDS = "thing set earns if needs luck cousin till coin weeks lost lends sells worth like keep or and not week home in owed runs left adds ";
    private static final int THING = 0;
    private static final int SET = 1;
    private static final int EARNS = 2;
    private static final int IF = 3;
    private static final int NEEDS = 4;
    private static final int LUCK = 5;
    private static final int COUSIN = 6;
    private static final int TILL = 7;
    private static final int COIN = 8;
    private static final int WEEKS = 9;
    private static final int LOST = 10;
    private static final int LENDS = 11;
    private static final int SELLS = 12;
    private static final int WORTH = 13;
    private static final int LIKE = 14;
    private static final int KEEP = 15;
    private static final int OR = 16;
    private static final int AND = 17;
    private static final int NOT = 18;
    private static final int WEEK = 19;
    private static final int HOME = 20;
    private static final int IN = 21;
    private static final int OWED = 22;
    private static final int RUNS = 23;
    private static final int LEFT = 24;
    private static final int ADDS = 25;
    private static final int WORD_COUNT = 26;
    private static final int LETTER = 30;
    private static final int NUMBER = 31;
    private static final int LONG_NUMBER = 32;
    private static final int SEMICOLON = 33;
    private static final int OPEN = 34;
    private static final int CLOSE = 35;
    private static final int PLUS = 36;
    private static final int MINUS = 37;
    private static final int TIMES = 38;
    private static final int BY = 39;
    private static final int LESS = 40;
    private static final int AT_MOST = 41;
    private static final int EQUAL = 42;
    private static final int AT_LEAST = 43;
    private static final int MORE = 44;
    private static final int BAD = 45;
    private static final int END = 46;

    // A step of CODE that is no sign of the text: the value of a word, and the end of a sum or test.
    private static final int WORD_VALUE = 47;
    private static final int STOP = 48;

    // The kinds of a FAULT.
    private static final int MISPLACED = 0;
    private static final int WRONG_NUMBER = 1;
    private static final int TOO_DEEP = 2;
    private static final int PIECE_TOO_MANY = 3;
    private static final int CLAUSE_TOO_MANY = 4;
    private static final int WRONG_LETTER = 5;

    // The sorts of an ACT.
    private static final int FETCH = 0;
    private static final int PUT = 1;
    private static final int SELL = 2;
    private static final int HALVE = 3;
    private static final int BORROW = 4;

    private final int[] tape;
    private int tapeLength;
    private final Reader reader;
    private final Book book;
    private final Book spareBook;
    private final Row acts;
    private final Rule[] rules;
    private int ruleCount;
    private final Book[] imageBooks;
    private final Row[] imageRows;
    private final boolean[] imageMade;
    private final Scene scene;
    private final Life life;
    private final Plans plans;
    private final Draws draws;
    private final int[] otherWeeks;

    public OutOfPawn() {
        tape = new int[TAPE_BYTES];
        reader = new Reader();
        book = new Book();
        spareBook = new Book();
        acts = new Row();
        rules = new Rule[MOST_RULES];
        for (int i = 0; i < MOST_RULES; i++) {
            rules[i] = new Rule();
        }
        imageBooks = new Book[MOST_IMAGES];
        imageRows = new Row[MOST_IMAGES];
        for (int i = 0; i < MOST_IMAGES; i++) {
            imageBooks[i] = new Book();
            imageRows[i] = new Row();
        }
        imageMade = new boolean[MOST_IMAGES];
        scene = new Scene();
        life = new Life(book, scene);
        plans = new Plans(book, scene);
        draws = new Draws();
        otherWeeks = new int[THINGS];
    }

    // ---- the tape, the book and the rules ----

    public int feed(int a, int b, int c, int d, int e) {
        if (tapeLength + FEED_BYTES > TAPE_BYTES) {
            return NONE;
        }
        putBytes(a);
        putBytes(b);
        putBytes(c);
        putBytes(d);
        putBytes(e);
        return tapeLength;
    }

    private void putBytes(int number) {
        for (int shift = 24; shift >= 0; shift -= 8) {
            if (tapeLength < TAPE_BYTES) {
                tape[tapeLength] = (number >>> shift) & 255;
                tapeLength++;
            }
        }
    }

    public int end(int n) {
        if (n < 0 || n > tapeLength) {
            return NONE;
        }
        tapeLength = n;
        return n;
    }

    public int book() {
        int fault = reader.readBook(tape, tapeLength, spareBook);
        tapeLength = 0;
        if (fault != 0) {
            return LACKING - fault;
        }
        book.take(spareBook);
        acts.count = 0;
        plans.ready = false;
        return Integer.bitCount(book.things);
    }

    public int rule() {
        if (ruleCount >= MOST_RULES) {
            return NONE;
        }
        int fault = reader.readRule(tape, tapeLength, rules[ruleCount]);
        tapeLength = 0;
        if (fault != 0) {
            return LACKING - fault;
        }
        ruleCount++;
        return ruleCount - 1;
    }

    public int thing(int thing, int what) {
        if (!book.has(thing)) {
            return LACKING;
        }
        switch (what) {
            case 0: return book.loan[thing];
            case 1: return book.runs[thing];
            case 2: return book.lost[thing];
            case 3: return book.lends[thing];
            case 4: return book.sells[thing];
            case 5: return book.worth[thing];
            default: return LACKING;
        }
    }

    public int count(int what) {
        switch (what) {
            case 0: return book.things;
            case 1: return book.weeks;
            case 2: return book.coin;
            case 3: return book.luck;
            case 4: return book.cousinLends;
            case 5: return book.cousinWeek;
            case 6: return book.sets.count;
            case 7: return book.needs.count;
            case 8: return ruleCount;
            case 9: return acts.count;
            case 10: return tapeLength;
            default: return LACKING;
        }
    }

    public int owed(int thing, int week) {
        return book.has(thing) && isTellable(week) ? book.firstOwed(thing, week) : NONE;
    }

    public int earned(int set, int week, int what) {
        if (!book.hasAll(set) || !isTellable(week)) {
            return NONE;
        }
        if (what == 0) {
            return book.earnings(scene, week, set, book.things & ~set);
        }
        return what == 1 ? book.needing(scene, week, set, book.things & ~set) : NONE;
    }

    private static boolean isTellable(int week) {
        return week >= 0 && week <= MOST_WEEKS;
    }

    private boolean isRule(int rule) {
        return rule >= 0 && rule < ruleCount && rule < MOST_RULES;
    }

    // ---- the row ----

    public int act(int week, int sort, int thing) {
        boolean told = sort == BORROW ? thing == 0 : sort >= FETCH && sort < BORROW && book.has(thing);
        if (!told || !isTellable(week) || !acts.canTake(week)) {
            return NONE;
        }
        acts.add(week, sort, thing);
        return acts.count;
    }

    public boolean row(int n) {
        if (n < 0 || n > acts.count) {
            return false;
        }
        acts.count = n;
        return true;
    }

    public int judged(int what) {
        life.liveByRow(acts, ALWAYS_WORK);
        switch (what) {
            case 0: return life.badAct;
            case 1: return life.brokeWeek;
            case 2: return life.coin;
            case 3: return life.home;
            case 4: return life.gone;
            default: return LACKING;
        }
    }

    public int then(int week, int what) {
        life.liveByRow(acts, ALWAYS_WORK);
        if (week < 0 || week >= life.weeksDone || week >= MOST_WEEKS) {
            return LACKING;
        }
        if (what == 0) {
            return life.coinThen[week];
        }
        return what == 1 ? life.homeThen[week] : LACKING;
    }

    // ---- plans ----

    private Plans readyPlans() {
        plans.prepare();
        return plans;
    }

    private static int orLacking(int coin) {
        return coin < 0 ? LACKING : coin;
    }

    public int soon() {
        return readyPlans().firstAllHome();
    }

    public int best(int what) {
        Plans all = readyPlans();
        if (what == 3) {
            return all.states;
        }
        if (what == 4) {
            return book.things & ~all.everHome;
        }
        if (what < 0 || what > 5) {
            return NO_SUCH;
        }
        if (all.most < 0) {
            return LACKING;
        }
        switch (what) {
            case 0: return all.most;
            case 1: return all.last;
            case 2: return all.richest();
            default: return book.things & ~all.last;
        }
    }

    public int fetched(int thing) {
        if (!book.has(thing)) {
            return NO_SUCH;
        }
        Plans all = readyPlans();
        return all.most < 0 ? LACKING : all.fetchWeek[thing];
    }

    public int hangs(int thing) {
        if (!book.has(thing)) {
            return NONE;
        }
        Plans all = readyPlans();
        return all.most < 0 ? LACKING : all.hanging(thing);
    }

    public int key() {
        Plans all = readyPlans();
        return all.most < 0 || book.things == 0 ? LACKING : all.keyThing();
    }

    public int wise(int thing) {
        if (!book.has(thing)) {
            return NO_SUCH_WISDOM;
        }
        Plans all = readyPlans();
        int kept = all.bestNeverPut(thing);
        return all.most < 0 || kept < 0 ? NO_LOSS : all.most - kept;
    }

    public int borrowed(int week) {
        if (week < 0 || week >= book.weeks) {
            return NONE;
        }
        return orLacking(readyPlans().bestBorrowing(week));
    }

    public int when() {
        return orLacking(readyPlans().borrowingWeek());
    }

    public int sold(int thing, int week) {
        if (!book.has(thing) || week < 0 || week >= book.weeks) {
            return NONE;
        }
        return orLacking(readyPlans().bestSelling(thing, week));
    }

    public int selling(int thing) {
        if (!book.has(thing)) {
            return NONE;
        }
        return orLacking(readyPlans().sellingWeek(thing));
    }

    // ---- rules ----

    public long likes(int rule, int thing, int week, int set, int coin) {
        boolean told = isRule(rule) && book.has(thing) && book.hasAll(set);
        if (!told || week < 0 || week >= book.weeks || coin < 0 || coin > MOST_COIN) {
            return 0L;
        }
        if ((set >> thing & 1) != 0) {
            return 0L;
        }
        life.begin();
        life.home = set;
        life.coin = coin;
        return life.liking(rules[rule], thing, week);
    }

    public int ruled(int rule, int what) {
        if (!isRule(rule) || what < 0 || what > 3) {
            return LACKING;
        }
        life.liveByRule(rules[rule], ALWAYS_WORK);
        switch (what) {
            case 0: return life.coin;
            case 1: return life.home;
            case 2: return life.brokeWeek;
            default: break;
        }
        int most = readyPlans().most;
        return life.brokeWeek != NONE || most < 0 ? NO_LOSS : most - life.coin;
    }

    public int finest() {
        int finest = LACKING;
        int most = NONE;
        for (int rule = 0; rule < ruleCount && rule < MOST_RULES; rule++) {
            life.liveByRule(rules[rule], ALWAYS_WORK);
            if (life.brokeWeek == NONE && life.coin > most) {
                most = life.coin;
                finest = rule;
            }
        }
        return finest;
    }

    public int parts(int one, int other) {
        if (!isRule(one) || !isRule(other) || one == other) {
            return NONE;
        }
        life.liveByRule(rules[one], ALWAYS_WORK);
        System.arraycopy(life.fetchWeek, 0, otherWeeks, 0, THINGS);
        life.liveByRule(rules[other], ALWAYS_WORK);
        int parts = 0;
        for (int thing = 0; thing < THINGS; thing++) {
            if (otherWeeks[thing] != life.fetchWeek[thing]) {
                parts++;
            }
        }
        return parts;
    }

    // ---- chances ----

    public int holds(int seed, int n) {
        if (!isDrawable(seed, n)) {
            return NONE;
        }
        draws.seed = seed;
        int times = 0;
        for (int i = 0; i < n; i++) {
            life.liveByRow(acts, draws.work(book.weeks, book.luck));
            if (life.isWell()) {
                times++;
            }
        }
        return times;
    }

    public int goes(int rule, int seed, int n) {
        if (!isRule(rule) || !isDrawable(seed, n)) {
            return NONE;
        }
        draws.seed = seed;
        int times = 0;
        for (int i = 0; i < n; i++) {
            life.liveByRule(rules[rule], draws.work(book.weeks, book.luck));
            if (life.isWell() && life.home == book.things) {
                times++;
            }
        }
        return times;
    }

    private static boolean isDrawable(int seed, int n) {
        return seed >= 0 && n >= 1 && n <= MOST_TIMES;
    }

    public int surely() {
        if (book.weeks > SURE_WEEKS) {
            return NONE;
        }
        int sure = 0;
        for (int work = 0; work < 1 << book.weeks; work++) {
            int chance = chanceOf(work);
            if (chance > 0) {
                life.liveByRow(acts, work);
                sure += life.isWell() ? chance : 0;
            }
        }
        return sure;
    }

    private int chanceOf(int work) {
        long chance = SURE;
        for (int week = 0; week < book.weeks; week++) {
            int part = (work >> week & 1) != 0 ? book.luck : THOUSAND - book.luck;
            chance = chance * part / THOUSAND;
        }
        return (int) chance;
    }

    // ---- ways a set earns ----

    public int most(int week, int n) {
        if (!isTellable(week) || n < 0 || n > Integer.bitCount(book.things)) {
            return NONE;
        }
        int finest = NONE;
        int most = NONE;
        for (int set = 0; set <= book.things; set++) {
            if (book.hasAll(set) && Integer.bitCount(set) == n) {
                int earned = book.earnings(scene, week, set, book.things & ~set);
                if (earned > most) {
                    most = earned;
                    finest = set;
                }
            }
        }
        return finest;
    }

    public int needed(int set, int week) {
        if (!book.hasAll(set) || !isTellable(week)) {
            return NONE;
        }
        int in = book.things & ~set;
        if ((in & book.lostBy(week)) != 0) {
            return LACKING;
        }
        int coins = 0;
        for (int thing = 0; thing < THINGS; thing++) {
            if ((in >> thing & 1) != 0) {
                coins += book.firstOwed(thing, week);
            }
        }
        return coins;
    }

    public int pays(int thing, int set, int week) {
        if (!book.has(thing) || !book.hasAll(set) || !isTellable(week) || (set >> thing & 1) == 0) {
            return NONE;
        }
        int in = book.things & ~set;
        int bit = 1 << thing;
        int due = book.firstOwed(thing, week);
        int paid = 0;
        for (int weeks = 1; weeks <= PAYING_WEEKS; weeks++) {
            int now = week + weeks - 1;
            paid += book.earnings(scene, now, set, in);
            paid -= book.earnings(scene, now, set & ~bit, in | bit);
            if (paid >= due) {
                return weeks;
            }
        }
        return LACKING;
    }

    // ---- images ----

    public int image(int k) {
        if (k < 0 || k >= MOST_IMAGES) {
            return NONE;
        }
        imageBooks[k].take(book);
        imageRows[k].take(acts);
        imageMade[k] = true;
        return acts.count;
    }

    public int back(int k) {
        if (k < 0 || k >= MOST_IMAGES || !imageMade[k]) {
            return NONE;
        }
        book.take(imageBooks[k]);
        acts.take(imageRows[k]);
        plans.ready = false;
        return acts.count;
    }

    /** Sums and tests of one text as steps that work on a stack, each sum or test up to its STOP. */
    static final class Code {
        private static final int KIND_SHIFT = 17;
        private static final int NUMBER_MASK = 131071;

        final int[] steps;
        int length;
        int asked;

        Code() {
            steps = new int[CODE_STEPS];
        }

        void clear() {
            length = 0;
            asked = 0;
        }

        void take(Code other) {
            System.arraycopy(other.steps, 0, steps, 0, other.length);
            length = other.length;
            asked = other.asked;
        }

        void add(int kind, int number) {
            if (length < CODE_STEPS) {
                steps[length] = kind << KIND_SHIFT | number & NUMBER_MASK;
                length++;
            }
            if (kind == WORD_VALUE) {
                asked |= 1 << number;
            }
        }

        int kindAt(int i) {
            return i >= 0 && i < length ? steps[i] >> KIND_SHIFT : STOP;
        }

        int numberAt(int i) {
            return i >= 0 && i < length ? steps[i] & NUMBER_MASK : 0;
        }

        boolean asks(int word) {
            return (asked >> word & 1) != 0;
        }
    }

    /** What the words stand for, and the stack on which sums and tests are worked out. */
    static final class Scene {
        final long[] words;
        private final long[] stack;

        Scene() {
            words = new long[WORD_COUNT];
            stack = new long[STACK_CELLS];
        }

        void place(int week, int home, int in) {
            words[WEEK] = week;
            words[HOME] = Integer.bitCount(home);
            words[IN] = Integer.bitCount(in);
        }

        /** The value of a sum, or 1 or 0 of a test. */
        long valueAt(Code code, int start) {
            int depth = 0;
            for (int i = start; i < CODE_STEPS; i++) {
                int kind = code.kindAt(i);
                if (kind == STOP) {
                    break;
                }
                if (kind == NUMBER || kind == WORD_VALUE) {
                    int number = code.numberAt(i);
                    if (depth < STACK_CELLS) {
                        stack[depth] = kind == NUMBER ? number : wordValue(number);
                        depth++;
                    }
                } else if (kind == NOT) {
                    if (depth > 0) {
                        stack[depth - 1] = 1L - stack[depth - 1];
                    }
                } else if (depth > 1) {
                    depth--;
                    stack[depth - 1] = joined(kind, stack[depth - 1], stack[depth]);
                }
            }
            return depth > 0 ? stack[0] : 0L;
        }

        private long wordValue(int word) {
            return word >= 0 && word < WORD_COUNT ? words[word] : 0L;
        }

        private static long joined(int kind, long a, long b) {
            switch (kind) {
                case PLUS: return a + b;
                case MINUS: return a - b;
                case TIMES: return a * b;
                case BY: return b == 0L ? 0L : a / b;
                case LESS: return a < b ? 1L : 0L;
                case AT_MOST: return a <= b ? 1L : 0L;
                case EQUAL: return a == b ? 1L : 0L;
                case AT_LEAST: return a >= b ? 1L : 0L;
                case MORE: return a > b ? 1L : 0L;
                case AND: return a & b;
                default: return a | b;
            }
        }
    }

    /** The sets of a BOOK with what they earn, or its needs: these are of the set of nothing. */
    static final class Clauses {
        final int[] bits;
        final int[] amounts;
        final int[] tests;
        int count;

        Clauses() {
            bits = new int[BOOK_CLAUSES];
            amounts = new int[BOOK_CLAUSES];
            tests = new int[BOOK_CLAUSES];
        }

        void take(Clauses other) {
            System.arraycopy(other.bits, 0, bits, 0, BOOK_CLAUSES);
            System.arraycopy(other.amounts, 0, amounts, 0, BOOK_CLAUSES);
            System.arraycopy(other.tests, 0, tests, 0, BOOK_CLAUSES);
            count = other.count;
        }

        void add(int set, int amount, int test) {
            if (count < BOOK_CLAUSES) {
                bits[count] = set;
                amounts[count] = amount;
                tests[count] = test;
                count++;
            }
        }

        /** Those whose test holds in the scene, as bits. */
        int holding(Code code, Scene scene) {
            int holding = 0;
            for (int i = 0; i < count && i < BOOK_CLAUSES; i++) {
                if (tests[i] == NONE || scene.valueAt(code, tests[i]) != 0L) {
                    holding |= 1 << i;
                }
            }
            return holding;
        }

        int together(int holding, int home) {
            int together = 0;
            for (int i = 0; i < count && i < BOOK_CLAUSES; i++) {
                if ((holding >> i & 1) != 0 && (bits[i] & ~home) == 0) {
                    together += amounts[i];
                }
            }
            return together;
        }
    }

    /** What a BOOK tells. */
    static final class Book {
        int things;
        int weeks;
        int coin;
        int luck;
        int cousinLends;
        int cousinWeek;
        final int[] loan;
        final int[] runs;
        final int[] lost;
        final int[] lends;
        final int[] sells;
        final int[] worth;
        final Clauses sets;
        final Clauses needs;
        final Code code;

        Book() {
            loan = new int[THINGS];
            runs = new int[THINGS];
            lost = new int[THINGS];
            lends = new int[THINGS];
            sells = new int[THINGS];
            worth = new int[THINGS];
            sets = new Clauses();
            needs = new Clauses();
            code = new Code();
            clear();
        }

        void clear() {
            things = 0;
            weeks = PLAIN_WEEKS;
            coin = 0;
            luck = THOUSAND;
            cousinLends = 0;
            cousinWeek = NONE;
            sets.count = 0;
            needs.count = 0;
            code.clear();
        }

        void take(Book other) {
            things = other.things;
            weeks = other.weeks;
            coin = other.coin;
            luck = other.luck;
            cousinLends = other.cousinLends;
            cousinWeek = other.cousinWeek;
            System.arraycopy(other.loan, 0, loan, 0, THINGS);
            System.arraycopy(other.runs, 0, runs, 0, THINGS);
            System.arraycopy(other.lost, 0, lost, 0, THINGS);
            System.arraycopy(other.lends, 0, lends, 0, THINGS);
            System.arraycopy(other.sells, 0, sells, 0, THINGS);
            System.arraycopy(other.worth, 0, worth, 0, THINGS);
            sets.take(other.sets);
            needs.take(other.needs);
            code.take(other.code);
        }

        void tellThing(int thing, int itsLoan, int itRuns) {
            if (thing >= 0 && thing < THINGS) {
                loan[thing] = itsLoan;
                runs[thing] = itRuns;
                lost[thing] = NONE;
                lends[thing] = 0;
                sells[thing] = 0;
                worth[thing] = 0;
            }
        }

        boolean has(int thing) {
            return thing >= 0 && thing < THINGS && (things >> thing & 1) != 0;
        }

        boolean hasAll(int set) {
            return (set & ~things) == 0;
        }

        /** OWED as at first. */
        int firstOwed(int thing, int week) {
            return loan[thing] + runs[thing] * week;
        }

        boolean isLost(int thing, int week) {
            return lost[thing] != NONE && lost[thing] <= week;
        }

        int lostBy(int week) {
            int bits = 0;
            for (int thing = 0; thing < THINGS; thing++) {
                if ((things >> thing & 1) != 0 && isLost(thing, week)) {
                    bits |= 1 << thing;
                }
            }
            return bits;
        }

        int earnings(Scene scene, int week, int home, int in) {
            scene.place(week, home, in);
            return sets.together(sets.holding(code, scene), home);
        }

        int needing(Scene scene, int week, int home, int in) {
            scene.place(week, home, in);
            return needs.together(needs.holding(code, scene), home);
        }

        /** Whether the cousin lends in a week: it is ahead of his, and that is one of the BOOK's. */
        boolean cousinLendsIn(int week) {
            return cousinWeek != NONE && cousinWeek < weeks && week < cousinWeek;
        }
    }

    /** What a RULE likes, and keeps back. */
    static final class Rule {
        final int[] sums;
        final int[] tests;
        int count;
        int keep;
        final Code code;

        Rule() {
            sums = new int[RULE_CLAUSES];
            tests = new int[RULE_CLAUSES];
            code = new Code();
        }

        void clear() {
            count = 0;
            keep = 0;
            code.clear();
        }

        void add(int sum, int test) {
            if (count < RULE_CLAUSES) {
                sums[count] = sum;
                tests[count] = test;
                count++;
            }
        }

        long valueIn(Scene scene) {
            for (int i = 0; i < count && i < RULE_CLAUSES; i++) {
                if (tests[i] == NONE || scene.valueAt(code, tests[i]) != 0L) {
                    return scene.valueAt(code, sums[i]);
                }
            }
            return 0L;
        }
    }

    /** The ROW of ACTS. */
    static final class Row {
        final int[] weeks;
        final int[] sorts;
        final int[] things;
        int count;

        Row() {
            weeks = new int[MOST_ACTS];
            sorts = new int[MOST_ACTS];
            things = new int[MOST_ACTS];
        }

        void take(Row other) {
            System.arraycopy(other.weeks, 0, weeks, 0, MOST_ACTS);
            System.arraycopy(other.sorts, 0, sorts, 0, MOST_ACTS);
            System.arraycopy(other.things, 0, things, 0, MOST_ACTS);
            count = other.count;
        }

        boolean canTake(int week) {
            return count < MOST_ACTS && (count == 0 || weeks[count - 1] <= week);
        }

        void add(int week, int sort, int thing) {
            if (count < MOST_ACTS) {
                weeks[count] = week;
                sorts[count] = sort;
                things[count] = thing;
                count++;
            }
        }
    }

    /** A text as tokens: of each its kind, its value (of a number or letter) and its place. */
    static final class Tokens {
        private static final int BLANK = 32;

        final int[] kinds;
        final int[] values;
        final int[] places;
        private int count;

        Tokens() {
            kinds = new int[TAPE_BYTES + 1];
            values = new int[TAPE_BYTES + 1];
            places = new int[TAPE_BYTES + 1];
        }

        void split(int[] text, int length) {
            count = 0;
            int next = 0;
            for (int place = 0; place < length && place < text.length; place++) {
                if (place >= next && text[place] != BLANK) {
                    next = splitOne(text, length, place);
                }
            }
            add(END, 0, length);
        }

        private void add(int kind, int value, int place) {
            if (count <= TAPE_BYTES) {
                kinds[count] = kind;
                values[count] = value;
                places[count] = place;
                count++;
            }
        }

        /** Adds the token at a place; answers the place behind it. */
        private int splitOne(int[] text, int length, int place) {
            int sign = text[place];
            if (sign >= '0' && sign <= '9') {
                int behind = behindRun(text, length, place, '0', '9');
                boolean tooLong = behind - place > MOST_DIGITS;
                add(tooLong ? LONG_NUMBER : NUMBER, tooLong ? 0 : numberIn(text, place, behind), place);
                return behind;
            }
            if (sign >= 'a' && sign <= 'z') {
                int behind = behindRun(text, length, place, 'a', 'z');
                boolean isLetter = behind - place == 1 && sign <= 'h';
                add(isLetter ? LETTER : wordIn(text, place, behind), isLetter ? sign - 'a' : 0, place);
                return behind;
            }
            boolean equalBehind = place + 1 < length && place + 1 < text.length && text[place + 1] == '=';
            if (equalBehind && (sign == '<' || sign == '>')) {
                add(sign == '<' ? AT_MOST : AT_LEAST, 0, place);
                return place + 2;
            }
            add(signKind(sign), 0, place);
            return place + 1;
        }

        private static int behindRun(int[] text, int length, int place, int lowest, int highest) {
            for (int i = place; i < length && i < text.length; i++) {
                if (text[i] < lowest || text[i] > highest) {
                    return i;
                }
            }
            return length;
        }

        private static int numberIn(int[] text, int place, int behind) {
            int number = 0;
            for (int i = place; i < behind && i < text.length; i++) {
                number = number * 10 + text[i] - '0';
            }
            return number;
        }

        private static int wordIn(int[] text, int place, int behind) {
            int word = 0;
            int from = 0;
            for (int to = 0; to < WORDS.length(); to++) {
                if (WORDS.charAt(to) == ' ') {
                    if (to - from == behind - place && isSame(text, place, behind, from)) {
                        return word;
                    }
                    word++;
                    from = to + 1;
                }
            }
            return BAD;
        }

        private static boolean isSame(int[] text, int place, int behind, int from) {
            for (int i = place; i < behind && i < text.length; i++) {
                int at = from + i - place;
                if (at < 0 || at >= WORDS.length() || WORDS.charAt(at) != text[i]) {
                    return false;
                }
            }
            return true;
        }

        private static int signKind(int sign) {
            switch (sign) {
                case ';': return SEMICOLON;
                case '[': return OPEN;
                case ']': return CLOSE;
                case '+': return PLUS;
                case '-': return MINUS;
                case '*': return TIMES;
                case '/': return BY;
                case '<': return LESS;
                case '=': return EQUAL;
                case '>': return MORE;
                default: return BAD;
            }
        }
    }

    /** Reads the texts of a BOOK and of a RULE, up to the first FAULT. */
    static final class Reader {
        private final Tokens tokens;
        private int at;
        private int kind;
        private int value;
        private int place;
        private int fault;
        private int pieces;
        private int told;
        private boolean ofRule;
        private Code code;

        Reader() {
            tokens = new Tokens();
        }

        private void open(int[] text, int length, Code into, boolean isRule) {
            tokens.split(text, length);
            at = NONE;
            next();
            fault = 0;
            pieces = 0;
            told = 0;
            code = into;
            ofRule = isRule;
        }

        /** Goes on to the next token; behind the last one it stays at the END. */
        private void next() {
            if (at == NONE || kind != END && at < TAPE_BYTES) {
                at++;
                kind = tokens.kinds[at];
                value = tokens.values[at];
                place = tokens.places[at];
            }
        }

        int readBook(int[] text, int length, Book book) {
            book.clear();
            open(text, length, book.code, false);
            for (int clause = 0; clause <= BOOK_CLAUSES && fault == 0; clause++) {
                int clauseKind = startClause(clause >= BOOK_CLAUSES);
                switch (clauseKind) {
                    case THING: readThing(book); break;
                    case SET: readSet(book); break;
                    case NEEDS: readNeed(book); break;
                    case LUCK: book.luck = number(0, THOUSAND); break;
                    case COUSIN: readCousin(book); break;
                    case COIN: book.coin = number(0, MOST_AMOUNT); break;
                    case WEEKS: book.weeks = number(1, MOST_WEEKS); break;
                    default: break;
                }
                if (isAtEnd()) {
                    break;
                }
            }
            return fault;
        }

        int readRule(int[] text, int length, Rule rule) {
            rule.clear();
            open(text, length, rule.code, true);
            for (int clause = 0; clause <= RULE_CLAUSES && fault == 0; clause++) {
                int clauseKind = startClause(clause >= RULE_CLAUSES);
                if (clauseKind == LIKE) {
                    readLike(rule);
                } else if (clauseKind == KEEP) {
                    rule.keep = number(0, MOST_AMOUNT);
                }
                if (isAtEnd()) {
                    break;
                }
            }
            return fault;
        }

        /** The kind of the clause that starts here, which is gone past; NONE with a fault. */
        private int startClause(boolean tooMany) {
            int clauseKind = kind;
            if (!isClause()) {
                fail(MISPLACED);
                return NONE;
            }
            if (tooMany || (told >> clauseKind & 1) != 0) {
                fail(CLAUSE_TOO_MANY);
                return NONE;
            }
            if (isOnceOnly()) {
                told |= 1 << clauseKind;
            }
            next();
            return clauseKind;
        }

        private boolean isClause() {
            if (ofRule) {
                return kind == LIKE || kind == KEEP;
            }
            return kind == THING || kind == SET || kind == NEEDS || kind != KEEP && isOnceOnly();
        }

        private boolean isOnceOnly() {
            return kind == LUCK || kind == COUSIN || kind == COIN || kind == WEEKS || kind == KEEP;
        }

        private boolean isAtEnd() {
            if (fault != 0 || kind == END) {
                return true;
            }
            expect(SEMICOLON);
            return false;
        }

        private void readThing(Book book) {
            if (kind != LETTER) {
                fail(MISPLACED);
                return;
            }
            int thing = value;
            if (book.has(thing)) {
                fail(WRONG_LETTER);
                return;
            }
            next();
            book.things |= 1 << thing;
            int loan = number(1, MOST_AMOUNT);
            book.tellThing(thing, loan, number(0, MOST_RUNS));
            int seen = 0;
            for (int extra = 0; extra < TAPE_BYTES && fault == 0; extra++) {
                int sort = kind;
                if (sort < LOST || sort > WORTH) {
                    return;
                }
                if ((seen >> sort & 1) != 0) {
                    fail(CLAUSE_TOO_MANY);
                    return;
                }
                seen |= 1 << sort;
                next();
                readExtra(book, thing, sort);
            }
        }

        private void readExtra(Book book, int thing, int sort) {
            if (thing < 0 || thing >= THINGS) {
                return;
            }
            if (sort == LOST) {
                book.lost[thing] = number(1, MOST_WEEKS);
            } else if (sort == LENDS) {
                book.lends[thing] = number(0, MOST_AMOUNT);
            } else if (sort == SELLS) {
                book.sells[thing] = number(0, MOST_AMOUNT);
            } else {
                book.worth[thing] = number(0, MOST_AMOUNT);
            }
        }

        private void readSet(Book book) {
            int set = 0;
            for (int i = 0; i < TAPE_BYTES && fault == 0 && kind == LETTER; i++) {
                int thing = value;
                if (!book.has(thing) || (set >> thing & 1) != 0) {
                    fail(WRONG_LETTER);
                    return;
                }
                set |= 1 << thing;
                next();
            }
            if (set == 0) {
                fail(MISPLACED);
                return;
            }
            expect(EARNS);
            int amount = number(0, MOST_AMOUNT);
            book.sets.add(set, amount, readIf());
        }

        private void readNeed(Book book) {
            int amount = number(0, MOST_AMOUNT);
            book.needs.add(0, amount, readIf());
        }

        private void readCousin(Book book) {
            book.cousinLends = number(0, MOST_AMOUNT);
            expect(TILL);
            book.cousinWeek = number(1, MOST_WEEKS);
        }

        private void readLike(Rule rule) {
            int start = code.length;
            readSum();
            code.add(STOP, 0);
            rule.add(start, readIf());
        }

        /** Where the test behind an 'if' starts; NONE without one. */
        private int readIf() {
            if (fault != 0 || kind != IF) {
                return NONE;
            }
            next();
            int start = code.length;
            readTest(0);
            code.add(STOP, 0);
            return start;
        }

        private void readTest(int depth) {
            for (int parts = 0; parts < TAPE_BYTES; parts++) {
                for (int facts = 0; facts < TAPE_BYTES; facts++) {
                    readFact(depth);
                    if (facts > 0) {
                        code.add(AND, 0);
                    }
                    if (fault != 0 || kind != AND) {
                        break;
                    }
                    next();
                }
                if (parts > 0) {
                    code.add(OR, 0);
                }
                if (fault != 0 || kind != OR) {
                    return;
                }
                next();
            }
        }

        private void readFact(int depth) {
            boolean isNot = kind == NOT;
            if (!isNot && kind != OPEN) {
                readSum();
                int sign = readSign();
                readSum();
                code.add(sign, 0);
                return;
            }
            if (depth >= MOST_DEPTH) {
                fail(TOO_DEEP);
                return;
            }
            next();
            if (isNot) {
                readFact(depth + 1);
                code.add(NOT, 0);
            } else {
                readTest(depth + 1);
                expect(CLOSE);
            }
        }

        private int readSign() {
            int sign = kind;
            if (sign < LESS || sign > MORE) {
                fail(MISPLACED);
            } else if (pieces >= MOST_PIECES) {
                fail(PIECE_TOO_MANY);
            } else {
                pieces++;
                next();
            }
            return sign;
        }

        private void readSum() {
            int joining = STOP;
            for (int terms = 0; terms < TAPE_BYTES && fault == 0; terms++) {
                readValue();
                for (int values = 0; values < TAPE_BYTES && (kind == TIMES || kind == BY); values++) {
                    int sign = kind;
                    next();
                    readValue();
                    code.add(sign, 0);
                }
                if (joining != STOP) {
                    code.add(joining, 0);
                }
                if (kind != PLUS && kind != MINUS) {
                    return;
                }
                joining = kind;
                next();
            }
        }

        private void readValue() {
            if (kind == LONG_NUMBER) {
                fail(WRONG_NUMBER);
            } else if (kind != NUMBER && !isValueWord()) {
                fail(MISPLACED);
            } else if (pieces >= MOST_PIECES) {
                fail(PIECE_TOO_MANY);
            } else {
                pieces++;
                code.add(kind == NUMBER ? NUMBER : WORD_VALUE, kind == NUMBER ? value : kind);
                next();
            }
        }

        private boolean isValueWord() {
            if (kind == WEEK || kind == HOME || kind == IN) {
                return true;
            }
            return ofRule && (kind >= OWED && kind <= ADDS || kind == WORTH || kind == COIN);
        }

        private int number(int least, int most) {
            int number = value;
            if (kind != NUMBER && kind != LONG_NUMBER) {
                fail(MISPLACED);
                return least;
            }
            if (kind == LONG_NUMBER || number < least || number > most) {
                fail(WRONG_NUMBER);
                return least;
            }
            next();
            return number;
        }

        private void expect(int due) {
            if (kind == due) {
                next();
            } else {
                fail(MISPLACED);
            }
        }

        /** The first fault stays: what is read behind it only comes to its end. */
        private void fail(int sort) {
            if (fault == 0) {
                fault = 1 + 8 * place + sort;
            }
        }
    }

    /** Weeks lived through, by a ROW or by a RULE. */
    static final class Life {
        private final Book book;
        private final Scene scene;
        private final Scene asking;
        int coin;
        int home;
        int gone;
        int badAct;
        int brokeWeek;
        int weeksDone;
        final int[] coinThen;
        final int[] homeThen;
        final int[] fetchWeek;
        private final int[] loan;
        private final int[] runs;
        private final int[] since;
        private int halved;
        private boolean hasBorrowed;

        Life(Book itsBook, Scene itsScene) {
            book = itsBook;
            scene = itsScene;
            asking = new Scene();
            coinThen = new int[MOST_WEEKS];
            homeThen = new int[MOST_WEEKS];
            fetchWeek = new int[THINGS];
            loan = new int[THINGS];
            runs = new int[THINGS];
            since = new int[THINGS];
        }

        void begin() {
            coin = book.coin;
            home = 0;
            gone = 0;
            badAct = NONE;
            brokeWeek = NONE;
            weeksDone = 0;
            halved = 0;
            hasBorrowed = false;
            for (int thing = 0; thing < THINGS; thing++) {
                loan[thing] = book.loan[thing];
                runs[thing] = book.runs[thing];
                since[thing] = 0;
                fetchWeek[thing] = NONE;
            }
        }

        /** All acts were done, and all weeks are through. */
        boolean isWell() {
            return badAct == NONE && brokeWeek == NONE;
        }

        void liveByRow(Row row, long work) {
            begin();
            int next = 0;
            for (int week = 0; week < book.weeks && week < MOST_WEEKS; week++) {
                startWeek(week);
                if (isWell()) {
                    next = doActs(row, next, week);
                }
                if (isWell()) {
                    endWeek(week, (work >> week & 1L) != 0L);
                }
                if (!isWell()) {
                    return;
                }
            }
            if (next < row.count) {
                badAct = next;
            }
        }

        void liveByRule(Rule rule, long work) {
            begin();
            for (int week = 0; week < book.weeks && week < MOST_WEEKS; week++) {
                startWeek(week);
                for (int times = 0; times < THINGS; times++) {
                    int thing = likedMost(rule, week);
                    if (thing == NONE || !fetchOne(thing, week)) {
                        break;
                    }
                }
                endWeek(week, (work >> week & 1L) != 0L);
                if (!isWell()) {
                    return;
                }
            }
        }

        private void startWeek(int week) {
            gone |= book.lostBy(week) & ~home;
            if (hasBorrowed && week == book.cousinWeek) {
                if (coin < book.cousinLends) {
                    brokeWeek = week;
                } else {
                    coin -= book.cousinLends;
                }
            }
        }

        private void endWeek(int week, boolean hasWork) {
            int in = thingsIn();
            if (hasWork) {
                coin += book.earnings(scene, week, home, in);
            }
            int need = book.needing(scene, week, home, in);
            if (coin < need) {
                brokeWeek = week;
                return;
            }
            coin -= need;
            if (week < MOST_WEEKS) {
                coinThen[week] = coin;
                homeThen[week] = home;
            }
            weeksDone = week + 1;
        }

        private int thingsIn() {
            return book.things & ~home & ~gone;
        }

        private boolean isIn(int thing) {
            return thing >= 0 && thing < THINGS && (thingsIn() >> thing & 1) != 0;
        }

        private int owedNow(int thing, int week) {
            return loan[thing] + runs[thing] * (week - since[thing]);
        }

        /** Does the acts of a week from one on; answers the first that is not of it, or can't be. */
        private int doActs(Row row, int from, int week) {
            for (int i = from; i >= 0 && i < row.count && i < MOST_ACTS; i++) {
                if (row.weeks[i] != week) {
                    return i;
                }
                if (!doAct(row.sorts[i], row.things[i], week)) {
                    badAct = i;
                    return i;
                }
            }
            return row.count;
        }

        private boolean doAct(int sort, int thing, int week) {
            switch (sort) {
                case FETCH: return fetchOne(thing, week);
                case PUT: return putOne(thing, week);
                case SELL: return sellOne(thing);
                case HALVE: return halveOne(thing, week);
                case BORROW: return borrowOnce(week);
                default: return false;
            }
        }

        private boolean fetchOne(int thing, int week) {
            if (!isIn(thing) || coin < owedNow(thing, week)) {
                return false;
            }
            coin -= owedNow(thing, week);
            home |= 1 << thing;
            fetchWeek[thing] = week;
            return true;
        }

        private boolean putOne(int thing, int week) {
            if (thing < 0 || thing >= THINGS || (home >> thing & 1) == 0) {
                return false;
            }
            home &= ~(1 << thing);
            halved &= ~(1 << thing);
            coin += book.lends[thing];
            loan[thing] = book.lends[thing];
            runs[thing] = book.runs[thing];
            since[thing] = week;
            return true;
        }

        private boolean sellOne(int thing) {
            if (!isIn(thing)) {
                return false;
            }
            gone |= 1 << thing;
            coin += book.sells[thing];
            return true;
        }

        private boolean halveOne(int thing, int week) {
            if (!isIn(thing) || (halved >> thing & 1) != 0) {
                return false;
            }
            int owed = owedNow(thing, week);
            int half = (owed + 1) / 2;
            if (coin < half) {
                return false;
            }
            coin -= half;
            halved |= 1 << thing;
            loan[thing] = owed - half;
            runs[thing] = runs[thing] / 2;
            since[thing] = week;
            return true;
        }

        private boolean borrowOnce(int week) {
            if (hasBorrowed || !book.cousinLendsIn(week)) {
                return false;
            }
            hasBorrowed = true;
            coin += book.cousinLends;
            return true;
        }

        private int likedMost(Rule rule, int week) {
            int liked = NONE;
            long most = 0L;
            for (int thing = 0; thing < THINGS; thing++) {
                if (isIn(thing) && owedNow(thing, week) <= coin - rule.keep) {
                    long liking = liking(rule, thing, week);
                    if (liking > most) {
                        most = liking;
                        liked = thing;
                    }
                }
            }
            return liked;
        }

        /** How much a rule likes a thing that is in, as things stand. */
        long liking(Rule rule, int thing, int week) {
            if (thing < 0 || thing >= THINGS) {
                return 0L;
            }
            int in = thingsIn();
            asking.place(week, home, in);
            asking.words[OWED] = owedNow(thing, week);
            asking.words[RUNS] = runs[thing];
            asking.words[LEFT] = book.lost[thing] == NONE ? NEVER_LEFT : book.lost[thing] - week;
            asking.words[WORTH] = book.worth[thing];
            asking.words[COIN] = coin;
            if (rule.code.asks(ADDS)) {
                int bit = 1 << thing;
                int earned = book.earnings(scene, week, home, in);
                asking.words[ADDS] = book.earnings(scene, week, home | bit, in & ~bit) - earned;
            }
            return rule.valueIn(asking);
        }
    }

    /** The weeks in which there is work, drawn anew each time. */
    static final class Draws {
        long seed;

        long work(int weeks, int luck) {
            long work = 0L;
            for (int week = 0; week < weeks; week++) {
                seed = (seed * 1103515245L + 12345L) % 2147483648L;
                if (seed / 65536L % THOUSAND < luck) {
                    work |= 1L << week;
                }
            }
            return work;
        }
    }

    /**
     * All PLANS of a BOOK at once: of each WEEK and what can be HOME at its end the most coin.
     * More coin is never worse and what is GONE hangs on the WEEK alone, so no more need be kept.
     */
    static final class Plans {
        private static final int COUNTS = THINGS + 1;

        private final Book book;
        private final Scene scene;
        boolean ready;
        int most;
        int last;
        int states;
        int everHome;
        final int[] fetchWeek;
        private final int[] coins;
        private final int[] gains;
        private final int[] gainsOneLess;
        private final int[] line;
        private final int[] fork;
        private final int[] earning;
        private final int[] needing;

        Plans(Book itsBook, Scene itsScene) {
            book = itsBook;
            scene = itsScene;
            fetchWeek = new int[THINGS];
            coins = new int[MOST_WEEKS * SETS];
            gains = new int[MOST_WEEKS * SETS];
            gainsOneLess = new int[MOST_WEEKS * SETS];
            line = new int[SETS];
            fork = new int[SETS];
            earning = new int[COUNTS * COUNTS];
            needing = new int[COUNTS * COUNTS];
        }

        void prepare() {
            if (ready) {
                return;
            }
            fillGains(gains, 0);
            if (book.code.asks(IN)) {
                fillGains(gainsOneLess, 1);
            }
            start(line, 0, book.coin);
            states = 0;
            everHome = 0;
            for (int week = 0; week < book.weeks && week < MOST_WEEKS; week++) {
                pass(line, week, 0, gains);
                System.arraycopy(line, 0, coins, week * SETS, SETS);
                countStates();
            }
            most = mostIn(line);
            last = lastSet();
            tracePlan();
            ready = true;
        }

        private void countStates() {
            for (int set = 0; set <= book.things && set < SETS; set++) {
                if (line[set] >= 0) {
                    states++;
                    everHome |= set;
                }
            }
        }

        private int lastSet() {
            for (int set = 0; set < SETS; set++) {
                if (line[set] >= 0 && line[set] == most) {
                    return set;
                }
            }
            return 0;
        }

        /** What is had less what is needed, by WEEK and HOME, with so many fewer IN. */
        private void fillGains(int[] into, int fewer) {
            for (int week = 0; week < book.weeks && week < MOST_WEEKS; week++) {
                fillHolding(week);
                int lost = book.lostBy(week);
                for (int set = 0; set <= book.things && set < SETS; set++) {
                    int in = Integer.bitCount(book.things & ~set & ~lost) - fewer;
                    int at = Integer.bitCount(set) * COUNTS + Math.max(in, 0);
                    if (at < earning.length && book.hasAll(set)) {
                        into[week * SETS + set] = book.sets.together(earning[at], set)
                            - book.needs.together(needing[at], set);
                    }
                }
            }
        }

        /** Which clauses hold in a week hangs only on how many are home and how many in. */
        private void fillHolding(int week) {
            for (int home = 0; home <= THINGS; home++) {
                for (int in = 0; in + home <= THINGS; in++) {
                    scene.words[WEEK] = week;
                    scene.words[HOME] = home;
                    scene.words[IN] = in;
                    earning[home * COUNTS + in] = book.sets.holding(book.code, scene);
                    needing[home * COUNTS + in] = book.needs.holding(book.code, scene);
                }
            }
        }

        private static void start(int[] at, int home, int coin) {
            for (int set = 0; set < at.length; set++) {
                at[set] = set == home ? coin : NONE;
            }
        }

        /** A week's fetching, of all but what is barred, and its gain. */
        private void pass(int[] at, int week, int barred, int[] gain) {
            int in = book.things & ~book.lostBy(week) & ~barred;
            for (int thing = 0; thing < THINGS; thing++) {
                if ((in >> thing & 1) != 0) {
                    fetchAnywhere(at, 1 << thing, book.firstOwed(thing, week));
                }
            }
            int from = week * SETS;
            for (int set = 0; set <= book.things && set < SETS && from + set < gain.length; set++) {
                if (at[set] >= 0) {
                    at[set] = Math.max(NONE, at[set] + gain[from + set]);
                }
            }
        }

        private void fetchAnywhere(int[] at, int bit, int owed) {
            for (int set = 0; set <= book.things && set < SETS; set++) {
                int with = set | bit;
                if (with != set && with < SETS && at[set] >= owed) {
                    at[with] = Math.max(at[with], at[set] - owed);
                }
            }
        }

        /** The coin in all states changed; NONE where it can't be paid. */
        private static void shift(int[] at, int coin) {
            for (int set = 0; set < at.length; set++) {
                if (at[set] >= 0) {
                    at[set] = Math.max(NONE, at[set] + coin);
                }
            }
        }

        private static int mostIn(int[] at) {
            int most = NONE;
            for (int set = 0; set < at.length; set++) {
                most = Math.max(most, at[set]);
            }
            return most;
        }

        private int coinAt(int week, int set) {
            return week >= 0 && week < MOST_WEEKS && set >= 0 && set < SETS ? coins[week * SETS + set] : NONE;
        }

        private void tracePlan() {
            for (int thing = 0; thing < THINGS; thing++) {
                fetchWeek[thing] = NONE;
            }
            if (most < 0) {
                return;
            }
            int set = last;
            for (int week = Math.min(book.weeks, MOST_WEEKS) - 1; week >= 0; week--) {
                int ahead = week == 0 ? 0 : setAhead(week, set);
                int added = set & ~ahead;
                for (int thing = 0; thing < THINGS; thing++) {
                    if ((added >> thing & 1) != 0) {
                        fetchWeek[thing] = week;
                    }
                }
                set = ahead;
            }
        }

        /** The least set at the end of the week ahead from which a state's most coin comes. */
        private int setAhead(int week, int set) {
            int in = book.things & ~book.lostBy(week);
            int due = coinAt(week, set) - gains[week * SETS + set];
            for (int ahead = 0; ahead < set; ahead++) {
                int coin = coinAt(week - 1, ahead);
                int added = set & ~ahead;
                if ((ahead & ~set) == 0 && (added & ~in) == 0 && coin >= 0 && coin - costOf(added, week) == due) {
                    return ahead;
                }
            }
            return set;
        }

        private int costOf(int set, int week) {
            int cost = 0;
            for (int thing = 0; thing < THINGS; thing++) {
                if ((set >> thing & 1) != 0) {
                    cost += book.firstOwed(thing, week);
                }
            }
            return cost;
        }

        int firstAllHome() {
            for (int week = 0; week < book.weeks; week++) {
                if (coinAt(week, book.things) >= 0) {
                    return week;
                }
            }
            return NONE;
        }

        int richest() {
            int richest = NONE;
            for (int set = 0; set <= book.things && set < SETS; set++) {
                int coin = coinAt(book.weeks - 1, set);
                if (coin >= 0) {
                    richest = Math.max(richest, coin + worthOf(set));
                }
            }
            return richest;
        }

        private int worthOf(int set) {
            int worth = 0;
            for (int thing = 0; thing < THINGS; thing++) {
                if ((set >> thing & 1) != 0) {
                    worth += book.worth[thing];
                }
            }
            return worth;
        }

        /** The gains of a week when a thing is gone that else would be in, or lost by then. */
        private int[] gainsWithout(int thing, int week) {
            return book.isLost(thing, week) || !book.code.asks(IN) ? gains : gainsOneLess;
        }

        int hanging(int thing) {
            start(line, 0, book.coin);
            for (int week = 0; week < book.weeks; week++) {
                pass(line, week, 1 << thing, gainsWithout(thing, week));
            }
            return most - Math.max(0, mostIn(line));
        }

        int keyThing() {
            int key = NONE;
            int hangsMost = 0;
            for (int thing = 0; thing < THINGS; thing++) {
                if (book.has(thing)) {
                    int hanging = hanging(thing);
                    boolean more = key == NONE || hanging > hangsMost;
                    if (more || hanging == hangsMost && book.loan[thing] < book.loan[key]) {
                        key = thing;
                        hangsMost = hanging;
                    }
                }
            }
            return key;
        }

        int bestNeverPut(int thing) {
            int coin = book.coin - book.loan[thing];
            if (coin < 0) {
                return NONE;
            }
            start(line, 1 << thing, coin);
            for (int week = 0; week < book.weeks; week++) {
                pass(line, week, 0, gains);
            }
            return mostIn(line);
        }

        int bestBorrowing(int week) {
            if (week < 0 || !book.cousinLendsIn(week)) {
                return NONE;
            }
            if (week == 0) {
                start(line, 0, book.coin);
            } else if (week <= MOST_WEEKS) {
                System.arraycopy(coins, (week - 1) * SETS, line, 0, SETS);
            }
            shift(line, book.cousinLends);
            for (int now = week; now < book.weeks; now++) {
                if (now == book.cousinWeek) {
                    shift(line, -book.cousinLends);
                }
                pass(line, now, 0, gains);
            }
            return mostIn(line);
        }

        /** Coin that comes earlier is never worse: of the weeks ahead of the cousin's the first is best. */
        int borrowingWeek() {
            return bestBorrowing(0) > most ? 0 : NONE;
        }

        int bestSelling(int thing, int week) {
            if (book.isLost(thing, week)) {
                return NONE;
            }
            start(line, 0, book.coin);
            for (int now = 0; now < week; now++) {
                pass(line, now, 1 << thing, gains);
            }
            return bestSellingFromLine(thing, week);
        }

        /** The line holds what can be at the beginning of the week, the thing never fetched. */
        private int bestSellingFromLine(int thing, int week) {
            System.arraycopy(line, 0, fork, 0, SETS);
            shift(fork, book.sells[thing]);
            for (int now = week; now < book.weeks; now++) {
                pass(fork, now, 1 << thing, gainsWithout(thing, now));
            }
            return mostIn(fork);
        }

        int sellingWeek(int thing) {
            int when = NONE;
            int highest = most;
            start(line, 0, book.coin);
            for (int week = 0; week < book.weeks && !book.isLost(thing, week); week++) {
                int coin = bestSellingFromLine(thing, week);
                if (coin > highest) {
                    highest = coin;
                    when = week;
                }
                pass(line, week, 1 << thing, gains);
            }
            return when;
        }
    }
}
