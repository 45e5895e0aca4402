/** The sentences of the Terms, part IV: RULES, LUCK, ways a set earns, and IMAGES. */
final class ChanceEdges {
    private static final String LUCK = "thing a 5 0;set a earns 3;coin 5;weeks 2;luck 500;needs 1";

    private ChanceEdges() {
    }

    private static void due(String what, long got, long want) {
        Check.due(what, got, want);
    }

    private static OutOfPawn with(String book, String... rules) {
        return Check.with(book, rules);
    }

    /** What is HOME at the end by one RULE. */
    private static int home(String book, String rule) {
        return with(book, rule).ruled(0, 1);
    }

    /** In how many of n times there is work in all those of so many WEEKS that are told as bits, by the document's words. */
    private static int timesWithWork(long seed, int n, int weeks, int luck, int told) {
        long x = seed;
        int times = 0;
        for (int i = 0; i < n; i++) {
            boolean all = true;
            for (int week = 0; week < weeks; week++) {
                x = (x * 1103515245L + 12345L) % 2147483648L;
                all &= (told >> week & 1) == 0 || x / 65536 % 1000 < luck;
            }
            times += all ? 1 : 0;
        }
        return times;
    }

    // ---- rules ----

    @Edge(promise = 25, says = "A RULE in a WEEK: again and again, of THINGS IN that it likes (the SUM of the first like CLAUSE without a TEST, or whose TEST holds, is above 0; 0 without) and whose OWED is not above the coin less keep, the one it likes most, of several the least, is FETCHED.", broken = {
        "if (liking > most) {\n                        most", "if (liking >= most) {\n                        most",
        "            long most = 0L;\n", "            long most = -1L;\n",
        "            long most = 0L;\n", "            long most = 1L;\n",
        "owedNow(thing, week) <= coin - rule.keep", "owedNow(thing, week) < coin - rule.keep",
        "owedNow(thing, week) <= coin - rule.keep", "owedNow(thing, week) <= coin",
        "if (isIn(thing) && owedNow", "if (!((home >> thing & 1) != 0) && book.has(thing) && owedNow",
        "for (int times = 0; times < THINGS; times++) {", "for (int times = 0; times < 1; times++) {",
        "for (int times = 0; times < THINGS; times++) {", "for (int times = 0; times < THINGS - 1; times++) {",
        "                if (tests[i] == NONE || scene.valueAt(code, tests[i]) != 0L) {\n                    return", "                if (tests[i] == NONE || scene.valueAt(code, tests[i]) != 0L && scene.valueAt(code, sums[i]) != 0L) {\n                    return",
        "            return 0L;\n        }\n    }\n\n    /** The ROW", "            return 1L;\n        }\n    }\n\n    /** The ROW",
        "                        most = liking;\n", ""})
    static void aRuleInAWeek() {
        String three = "thing a 5 0 worth 1;thing b 5 0 worth 3;thing c 5 0 worth 2;coin 10;weeks 1";
        due("of several the least", home(three, "like 3"), 3);
        due("the most liked", home(three, "like worth"), 6);
        due("liked by 1", home(three, "like worth-1"), 6);
        due("liked by 0 is not liked", home(three, "like worth-2"), 2);
        due("below 0 is not liked", home(three, "like 0-worth"), 0);
        due("none without a clause", home(three, "keep 1"), 0);
        due("the first clause that holds, of 0", home(three, "like 0 if 1=1;like 5"), 0);
        due("the first clause that holds, without a test", home(three, "like 0;like 5"), 0);
        due("the second, as the first does not hold", home(three, "like 0 if 1=2;like 5"), 3);
        due("none holds", home(three, "like 5 if 1=2;like 5 if 1=3"), 0);
        due("as things stand then: home", home(three, "like 1 if home=0"), 1);
        due("as things stand then: in", home(three, "like 1 if in=3;like 0"), 1);
        due("as things stand then: coin", home(three, "like coin-5"), 1);
        due("owed as coin less keep", home(three, "like 3;keep 5"), 1);
        due("owed one above coin less keep", home(three, "like 3;keep 6"), 0);
        due("keep above the coin", home(three, "like 3;keep 9999"), 0);
        due("the dear one is passed over", home("thing a 9 0 worth 9;thing b 1 0 worth 1;coin 5", "like worth"), 2);
        due("all eight in one week", home("thing a 1 0;thing b 1 0;thing c 1 0;thing d 1 0;thing e 1 0;thing f 1 0;thing g 1 0;thing h 1 0;coin 8;weeks 1", "like owed"), 255);
        due("one that is lost is not in", home("thing a 2 0 lost 1;thing b 1 0;thing c 3 0;set b earns 5;coin 1;weeks 3", "like 1"), 6);
        due("ahead of that it is", home("thing a 2 0 lost 2;thing b 1 0;set b earns 5;coin 1;weeks 3", "like 1"), 3);
    }

    @Edge(promise = 25, says = "RULED: all WEEKS so, with work: coin, HOME, the WEEK in which one is BROKE.", broken = {
        "        life.liveByRule(rules[rule], ALWAYS_WORK);\n        switch", "        life.liveByRule(rules[rule], 0L);\n        switch",
        "week < book.weeks && week < MOST_WEEKS; week++) {\n                startWeek(week);\n                for", "week < book.weeks - 1 && week < MOST_WEEKS; week++) {\n                startWeek(week);\n                for",
        "week < book.weeks && week < MOST_WEEKS; week++) {\n                startWeek(week);\n                for", "week < book.weeks && week < 1; week++) {\n                startWeek(week);\n                for"})
    static void ruledWithWork() {
        String book = "thing a 2 0;set a earns 2;thing b 4 0;luck 0;coin 2;weeks 3";
        OutOfPawn x = with(book, "like 1", "like 0", "like 1 if week=2");
        due("coin, with work whatever the luck", x.ruled(0, 0), 2);
        due("home: b in the last week", x.ruled(0, 1), 3);
        due("not broke", x.ruled(0, 2), -1);
        due("nothing fetched", x.ruled(1, 0), 2);
        due("in the last week", x.ruled(2, 1), 1);
        x = with("thing a 2 0;needs 1;coin 3;weeks 60", "like 1", "like 0");
        due("coin when broke", x.ruled(0, 0), 0);
        due("home when broke", x.ruled(0, 1), 1);
        due("broke in week 1", x.ruled(0, 2), 1);
        due("broke in week 3", x.ruled(1, 2), 3);
        due("broke in week 59", with("needs 1;coin 59;weeks 60", "like 1").ruled(0, 2), 59);
    }

    @Edge(promise = 25, says = "LOSES: BEST less its coin at the end (none, if BROKE or without BEST).", broken = {
        "return life.brokeWeek != NONE || most < 0 ? NO_LOSS : most - life.coin;", "return most < 0 ? NO_LOSS : most - life.coin;",
        "return life.brokeWeek != NONE || most < 0 ? NO_LOSS : most - life.coin;", "return life.brokeWeek != NONE || most <= 0 ? NO_LOSS : most - life.coin;",
        "return life.brokeWeek != NONE || most < 0 ? NO_LOSS : most - life.coin;", "return life.brokeWeek != NONE || most < 0 ? NO_LOSS : most;"})
    static void loses() {
        due("nothing", with("thing a 5 0;set a earns 9;coin 5", "like 1").ruled(0, 3), 0);
        due("some", with("thing a 5 0;coin 5", "like 1").ruled(0, 3), 5);
        due("broke, though there is a best", with("thing a 5 0;needs 1;coin 5;weeks 2", "like 1").ruled(0, 3), -1000000);
        due("no best", with("needs 1;weeks 2", "like 1").ruled(0, 3), -1000000);
        due("best is 0", with("needs 1;coin 2;weeks 2", "like 1").ruled(0, 3), 0);
    }

    @Edge(promise = 26, says = "FINEST RULE: with the most coin at the end (not BROKE), of several the least.", broken = {
        "if (life.brokeWeek == NONE && life.coin > most) {", "if (life.coin > most) {",
        "if (life.brokeWeek == NONE && life.coin > most) {", "if (life.brokeWeek == NONE && life.coin >= most) {",
        "                most = life.coin;\n                finest", "                finest"})
    static void finest() {
        String book = "thing a 4 0;set a earns 6 if week=1;coin 4;weeks 2";
        due("the most coin", with(book, "like 0", "like 1", "keep 9").finest(), 1);
        due("of several the least", with(book, "like 0", "like 1", "like 2", "like 1 if week=1").finest(), 1);
        due("all alike", with(book, "keep 1", "keep 2").finest(), 0);
        String broke = "thing a 4 0;thing b 3 0;set b earns 9;needs 30 if week=1 and home>0;coin 9;weeks 2";
        due("not a broke one with more coin", with(broke, "like 1", "keep 9").finest(), 1);
    }

    @Edge(promise = 27, says = "PARTS: how many THINGS one RULE FETCHES in another WEEK than another RULE (or not at all).", broken = {
        "if (otherWeeks[thing] != life.fetchWeek[thing]) {", "if ((otherWeeks[thing] == NONE) != (life.fetchWeek[thing] == NONE)) {",
        "if (otherWeeks[thing] != life.fetchWeek[thing]) {", "if (otherWeeks[thing] > life.fetchWeek[thing]) {",
        "if (otherWeeks[thing] != life.fetchWeek[thing]) {", "if (otherWeeks[thing] < life.fetchWeek[thing]) {",
        "if (otherWeeks[thing] != life.fetchWeek[thing]) {", "if (otherWeeks[thing] != NONE && life.fetchWeek[thing] != NONE && otherWeeks[thing] != life.fetchWeek[thing]) {",
        "                fetchWeek[thing] = NONE;\n            }\n        }", "            }\n        }"})
    static void parts() {
        String book = "thing a 1 0;thing b 1 0;thing h 1 0;coin 3;weeks 3";
        OutOfPawn x = with(book, "like 1 if week=0", "like 1 if week=2", "like 1 if week=0 and home<1", "keep 3", "keep 2", "like 1");
        int[][] told = {{-1, 3, 2, 3, 3, 0}, {3, -1, 3, 3, 3, 3}, {2, 3, -1, 1, 1, 2}, {3, 3, 1, -1, 0, 3}, {3, 3, 1, 0, -1, 3}, {0, 3, 2, 3, 3, -1}};
        for (int one = 0; one < 6; one++) {
            for (int other = 0; other < 6; other++) {
                due("rules " + one + " and " + other, x.parts(one, other), told[one][other]);
            }
        }
        due("all eight", with("thing a 1 0;thing b 1 0;thing c 1 0;thing d 1 0;thing e 1 0;thing f 1 0;thing g 1 0;thing h 1 0;coin 8;weeks 2",
            "like 1", "like 1 if week=1").parts(0, 1), 8);
        due("no things", with("coin 1", "like 1", "like 0").parts(0, 1), 0);
        due("what a broke one fetched counts", with("thing a 1 0;needs 2 if home=1;coin 1;weeks 2", "like 1", "like 0").parts(0, 1), 1);
    }

    // ---- luck ----

    @Edge(promise = 28, says = "LUCK: in each WEEK there is work if x / 65536 mod 1000 is below luck, x having become x * 1103515245 + 12345, of 2147483648 the rest.", broken = {
        "1103515245L", "1103515244L",
        "12345L)", "12344L)",
        "2147483648L;", "4294967296L;",
        "seed / 65536L %", "seed / 32768L %",
        "% THOUSAND < luck) {", "% THOUSAND <= luck) {",
        "                seed = (seed * 1103515245L + 12345L) % 2147483648L;\n                if (seed / 65536L % THOUSAND < luck) {\n                    work |= 1L << week;\n                }", "                if (seed / 65536L % THOUSAND < luck) {\n                    work |= 1L << week;\n                }\n                seed = (seed * 1103515245L + 12345L) % 2147483648L;"})
    static void luck() {
        int[][] drawn = {{0, 0}, {1, 838}, {2, 908}, {65536, 77}, {1000000, 798}, {2147483647, 929}};
        for (int[] of : drawn) {
            for (int luck : new int[] {of[1], of[1] + 1}) {
                OutOfPawn x = with("thing a 1 0;set a earns 1;needs 1;coin 1;weeks 1;luck " + luck);
                x.act(0, 0, 0);
                due("seed " + of[0] + " luck " + luck, x.holds(of[0], 1), luck > of[1] ? 1 : 0);
            }
        }
        // of seed 0 the weeks draw 0, 468, 988 and 117
        int[][] work = {{0, 0}, {1, 1}, {117, 1}, {118, 9}, {468, 9}, {469, 11}, {988, 11}, {989, 15}, {1000, 15}};
        for (int[] of : work) {
            for (int week = 0; week < 4; week++) {
                OutOfPawn x = with("thing a 1 0;set a earns 1 if week=" + week + ";needs 1 if week=" + week + ";coin 1;weeks 4;luck " + of[0]);
                x.act(0, 0, 0);
                due("week " + week + " luck " + of[0], x.holds(0, 1), of[1] >> week & 1);
            }
        }
        OutOfPawn x = with("thing a 1 0;set a earns 1;needs 1;coin 1;weeks 60");
        x.act(0, 0, 0);
        due("always, without luck told", x.holds(2147483647, 100), 100);
    }

    @Edge(promise = 28, says = "HOLDS: of n times (1 to 100, the seed goes on): in how many the ROW is done to its end and one is not BROKE.", broken = {
        "            life.liveByRow(acts, draws.work(book.weeks, book.luck));", "            draws.seed = seed;\n            life.liveByRow(acts, draws.work(book.weeks, book.luck));",
        "            life.liveByRow(acts, draws.work(book.weeks, book.luck));", "            life.liveByRow(acts, draws.work(1, book.luck));",
        "            life.liveByRow(acts, draws.work(book.weeks, book.luck));\n            if (life.isWell()) {", "            life.liveByRow(acts, draws.work(book.weeks, book.luck));\n            if (life.brokeWeek == NONE) {",
        "            life.liveByRow(acts, draws.work(book.weeks, book.luck));\n            if (life.isWell()) {", "            life.liveByRow(acts, draws.work(book.weeks, book.luck));\n            if (life.badAct == NONE) {",
        "        draws.seed = seed;\n        int times = 0;\n        for (int i = 0; i < n; i++) {\n            life.liveByRow", "        draws.seed = draws.seed + seed;\n        int times = 0;\n        for (int i = 0; i < n; i++) {\n            life.liveByRow"})
    static void holds() {
        OutOfPawn always = with("thing a 1 0;set a earns 1;needs 1;coin 1;weeks 3;luck 700");
        always.act(0, 0, 0);
        OutOfPawn first = with("thing a 1 0;set a earns 4;thing b 4 0;coin 1;weeks 2;luck 500");
        Check.act(first, 0, 0, 0, 1, 0, 1);
        for (int seed : new int[] {0, 1, 77, 2147483647}) {
            for (int n : new int[] {1, 2, 3, 50, 99, 100}) {
                due("not broke, seed " + seed + " n " + n, always.holds(seed, n), timesWithWork(seed, n, 3, 700, 7));
                due("done to its end, seed " + seed + " n " + n, first.holds(seed, n), timesWithWork(seed, n, 2, 500, 1));
            }
        }
        due("once, then twice of one seed", always.holds(0, 1), timesWithWork(0, 1, 3, 700, 7));
        first.row(0);
        first.act(2, 3, 0);
        due("an act of no week of the book", first.holds(0, 100), 0);
    }

    @Edge(promise = 29, says = "GOES: of n times: in how many a RULE has all THINGS HOME at the end. (A time draws for all WEEKS, whatever comes.)", broken = {
        "            life.liveByRule(rules[rule], draws.work(book.weeks, book.luck));", "            life.liveByRule(rules[rule], draws.work(1, book.luck));",
        "            life.liveByRule(rules[rule], draws.work(book.weeks, book.luck));", "            draws.seed = seed;\n            life.liveByRule(rules[rule], draws.work(book.weeks, book.luck));",
        "life.isWell() && life.home == book.things", "life.isWell() && life.home != 0",
        "life.isWell() && life.home == book.things", "life.isWell()",
        "life.isWell() && life.home == book.things", "life.home == book.things"})
    static void goes() {
        OutOfPawn x = with(LUCK, "like adds", "like 0");
        OutOfPawn two = with("thing a 1 0;thing h 4 0;set a earns 4;coin 1;weeks 3;luck 300", "like 1");
        for (int seed : new int[] {0, 1, 77, 2147483647}) {
            for (int n : new int[] {1, 2, 3, 50, 99, 100}) {
                due("broke in week 0 without work, seed " + seed + " n " + n, x.goes(0, seed, n), timesWithWork(seed, n, 2, 500, 1));
                int none = n - timesWithWork(seed, n, 3, 300, 1) - timesWithWork(seed, n, 3, 300, 2) + timesWithWork(seed, n, 3, 300, 3);
                due("h after work in one week of two, seed " + seed + " n " + n, two.goes(0, seed, n), n - none);
            }
        }
        due("none fetched", x.goes(1, 0, 100), 0);
        due("one of two is lost", with("thing a 5 0;thing b 1 0 lost 1;coin 5", "like owed").goes(0, 9, 100), 0);
        due("no things, not broke", with("coin 1;luck 0", "like 1").goes(0, 0, 100), 100);
        due("no things, broke", with("needs 1;luck 0", "like 1").goes(0, 0, 100), 0);
    }

    @Edge(promise = 30, says = "SURELY, for 10 WEEKS and fewer: of all ways in which work can come or not: 1000000000 times luck, or 1000 less luck, by 1000, downwards each, WEEK by WEEK: of those in which the ROW HOLDS, together.", broken = {
        "SURE = 1000000000;", "SURE = 100000000;",
        "            if (chance > 0) {\n", "            if (chance > 1) {\n",
        "chance = chance * part / THOUSAND;", "chance = (chance * part + THOUSAND - 1) / THOUSAND;",
        "for (int week = 0; week < book.weeks; week++) {\n            int part", "for (int week = book.weeks - 1; week >= 0; week--) {\n            int part",
        "(work >> week & 1) != 0 ? book.luck : THOUSAND - book.luck;", "(work >> week & 1) == 0 ? book.luck : THOUSAND - book.luck;",
        "for (int work = 0; work < 1 << book.weeks; work++) {", "for (int work = 1; work < 1 << book.weeks; work++) {",
        "for (int work = 0; work < 1 << book.weeks; work++) {", "for (int work = 0; work < (1 << book.weeks) - 1; work++) {",
        "sure += life.isWell() ? chance : 0;", "sure += life.brokeWeek == NONE ? chance : 0;",
        "sure += life.isWell() ? chance : 0;", "sure += life.badAct == NONE ? chance : 0;"})
    static void surely() {
        OutOfPawn x = with(LUCK);
        due("whatever comes", x.surely(), 1000000000);
        x.act(0, 0, 0);
        due("with work in week 0", x.surely(), 500000000);
        x.row(0);
        x.act(0, 1, 0);
        due("an act that can't be", x.surely(), 0);
        due("downwards, 4 weeks", with("weeks 4;luck 333").surely(), 999999992);
        due("downwards, 10 weeks", with("weeks 10;luck 777").surely(), 999998984);
        due("downwards, 10 weeks, luck 1", with("weeks 10;luck 1").surely(), 999999831);
        x = with("thing a 5 0;set a earns 5 if week=0;needs 5 if week=0;coin 5;weeks 5;luck 777");
        x.act(0, 0, 0);
        due("week by week", x.surely(), 776999988);
        due("one way in the last thousandth", with("weeks 3;luck 1").surely(), 1000000000);
        due("never work", with("weeks 10;luck 0").surely(), 1000000000);
        due("always work", with("weeks 10").surely(), 1000000000);
        x = with("thing a 1 0;set a earns 1;needs 1;coin 1;weeks 1;luck 0");
        x.act(0, 0, 0);
        due("never, by luck 0", x.surely(), 0);
        x = with("thing a 1 0;set a earns 1;needs 1;coin 1;weeks 1;luck 1");
        x.act(0, 0, 0);
        due("one of a thousand", x.surely(), 1000000);
    }

    // ---- ways a set earns ----

    @Edge(promise = 31, says = "WAYS a set earns: MOST: the set of THINGS, n of them (0 to 8), that EARN most in a WEEK, of several the least as a number.", broken = {
        "            if (book.hasAll(set) && Integer.bitCount(set) == n) {", "            if (book.hasAll(set) && Integer.bitCount(set) <= n) {",
        "            if (book.hasAll(set) && Integer.bitCount(set) == n) {", "            if (Integer.bitCount(set) == n) {",
        "                if (earned > most) {\n", "                if (earned >= most) {\n",
        "                int earned = book.earnings(scene, week, set, book.things & ~set);\n", "                int earned = book.earnings(scene, week, set, book.things & ~set & ~book.lostBy(week));\n",
        "                int earned = book.earnings(scene, week, set, book.things & ~set);\n", "                int earned = book.earnings(scene, 0, set, book.things & ~set);\n",
        "        int finest = NONE;\n        int most = NONE;", "        int finest = NONE;\n        int most = 0;"})
    static void most() {
        OutOfPawn x = with("thing a 1 0 lost 1;thing b 1 0;thing h 1 0;set a earns 5;set b earns 5;set h earns 4;set b h earns 3 if in=1;set h earns 9 if week=60");
        int[] told = {0, 1, 130, 131};
        for (int n = 0; n < 4; n++) {
            due("week 0, " + n, x.most(0, n), told[n]);
        }
        due("week 2, a is lost but in", x.most(2, 2), 130);
        due("week 60", x.most(60, 1), 128);
        OutOfPawn none = with("thing b 1 0;thing d 1 0;thing h 1 0");
        int[] least = {0, 2, 10, 138};
        for (int n = 0; n < 4; n++) {
            due("nothing earned, " + n, none.most(0, n), least[n]);
        }
    }

    @Edge(promise = 32, says = "NEEDED for a set of THINGS HOME: coins that FETCH all others that are IN, in a WEEK (as at first; none if one is lost by then).", broken = {
        "if ((in & book.lostBy(week)) != 0) {", "if (book.lostBy(week) != 0) {",
        "if ((in & book.lostBy(week)) != 0) {", "if (in != 0 && (in & book.lostBy(week)) == in) {",
        "if ((in & book.lostBy(week)) != 0) {", "if (week > 0 && (in & book.lostBy(week - 1)) != 0) {",
        "coins += book.firstOwed(thing, week);", "coins += book.loan[thing];",
        "coins += book.firstOwed(thing, week);", "coins += life.loan[thing] + book.runs[thing] * week;"})
    static void needed() {
        OutOfPawn x = with("thing a 10 3;thing b 4 0 lost 2;thing h 5 1;coin 40");
        x.act(0, 3, 0);
        x.judged(0);
        due("all, week 0, as at first", x.needed(0, 0), 19);
        due("all, week 1", x.needed(0, 1), 23);
        due("all, week 2: b is lost", x.needed(0, 2), -2);
        due("all, week 60", x.needed(0, 60), -2);
        due("b is home", x.needed(2, 2), 23);
        due("b alone, week 1", x.needed(129, 1), 4);
        due("b alone, week 2", x.needed(129, 2), -2);
        due("all home, week 60", x.needed(131, 60), 0);
        due("no coin is asked", with("thing a 9999 999").needed(0, 60), 9999 + 999 * 60);
    }

    @Edge(promise = 33, says = "PAYS: in how many WEEKS from a WEEK on, with nothing else, what a THING adds to others that are HOME has paid what is OWED for it then (200 WEEKS at most, else none).", broken = {
        "PAYING_WEEKS = 200;", "PAYING_WEEKS = 199;",
        "PAYING_WEEKS = 200;", "PAYING_WEEKS = 201;",
        "int due = book.firstOwed(thing, week);", "int due = book.firstOwed(thing, 0);",
        "if (paid >= due) {", "if (paid > due) {",
        "paid -= book.earnings(scene, now, set & ~bit, in | bit);", "paid -= book.earnings(scene, now, set & ~bit, in);",
        "paid -= book.earnings(scene, now, set & ~bit, in | bit);", "",
        "int now = week + weeks - 1;", "int now = Math.min(MOST_WEEKS, week + weeks - 1);",
        "int now = week + weeks - 1;", "int now = week + weeks;",
        "            paid += book.earnings(scene, now, set, in);\n", "            paid += Math.max(book.earnings(scene, now, set & ~bit, in | bit), book.earnings(scene, now, set, in));\n"})
    static void pays() {
        OutOfPawn x = with("thing a 10 3;set a earns 5");
        due("all that is owed", x.pays(0, 1, 0), 2);
        due("more is owed in week 1", x.pays(0, 1, 1), 3);
        due("in week 60", x.pays(0, 1, 60), 38);
        due("what it adds", with("thing a 5 0;thing b 1 0;set b earns 4 if in=1;set a earns 5").pays(0, 3, 0), 5);
        due("what it takes away counts", with("thing a 7 0;thing b 1 0;set a earns 4 if week=0;set b earns 3 if home=1 and week=1;"
            + "set a earns 5 if week=2").pays(0, 3, 0), -2);
        due("behind that it pays", with("thing a 6 0;thing b 1 0;set a earns 4 if week=0;set b earns 3 if home=1 and week=1;"
            + "set a earns 5 if week=2").pays(0, 3, 0), 3);
        due("200 weeks", with("thing a 200 0;set a earns 1").pays(0, 1, 60), 200);
        due("201 weeks", with("thing a 201 0;set a earns 1").pays(0, 1, 0), -2);
        due("weeks go on behind 60", with("thing a 9 0;set a earns 9 if week=100").pays(0, 1, 60), 41);
        due("to the 200th", with("thing a 9 0;set a earns 9 if week=259").pays(0, 1, 60), 200);
        due("not to a 201st", with("thing a 9 0;set a earns 9 if week=260").pays(0, 1, 60), -2);
        due("the first", with("thing a 9 0;set a earns 9 if week=60").pays(0, 1, 60), 1);
        due("not one ahead of it", with("thing a 9 0;set a earns 9 if week=59").pays(0, 1, 60), -2);
        due("one that is lost pays, too", with("thing a 9 0 lost 1;set a earns 9").pays(0, 1, 5), 1);
    }

    @Edge(promise = 35, says = "IMAGES 0 to 3: the BOOK and the ROW, as they are; gone back to, they are as they were (RULES stay).", broken = {
        "            things = other.things;\n", "",
        "            weeks = other.weeks;\n", "",
        "            coin = other.coin;\n", "",
        "            luck = other.luck;\n", "",
        "            cousinLends = other.cousinLends;\n", "",
        "            cousinWeek = other.cousinWeek;\n", "",
        "            System.arraycopy(other.loan, 0, loan, 0, THINGS);\n", "",
        "            System.arraycopy(other.runs, 0, runs, 0, THINGS);\n", "",
        "            System.arraycopy(other.lost, 0, lost, 0, THINGS);\n", "",
        "            System.arraycopy(other.lends, 0, lends, 0, THINGS);\n", "",
        "            System.arraycopy(other.sells, 0, sells, 0, THINGS);\n", "",
        "            System.arraycopy(other.worth, 0, worth, 0, THINGS);\n", "",
        "            sets.take(other.sets);\n", "",
        "            needs.take(other.needs);\n", "",
        "            code.take(other.code);\n", "",
        "            System.arraycopy(other.bits, 0, bits, 0, BOOK_CLAUSES);\n", "",
        "            System.arraycopy(other.amounts, 0, amounts, 0, BOOK_CLAUSES);\n", "",
        "            System.arraycopy(other.tests, 0, tests, 0, BOOK_CLAUSES);\n", "",
        "            asked = other.asked;\n", "",
        "            System.arraycopy(other.weeks, 0, weeks, 0, MOST_ACTS);\n", "",
        "            System.arraycopy(other.sorts, 0, sorts, 0, MOST_ACTS);\n", "",
        "            System.arraycopy(other.things, 0, things, 0, MOST_ACTS);\n", "",
        "        imageBooks[k].take(book);\n", "        imageBooks[0].take(book);\n",
        "        imageRows[k].take(acts);\n", "        imageRows[0].take(acts);\n",
        "        imageMade[k] = true;\n", "        imageMade[k] = true;\n        acts.count = 0;\n",
        "        acts.take(imageRows[k]);\n        plans.ready = false;", "        acts.take(imageRows[k]);\n        ruleCount = 0;\n        plans.ready = false;",
        "        acts.take(imageRows[k]);\n        plans.ready = false;", "        acts.take(imageRows[k]);\n        tapeLength = 0;\n        plans.ready = false;"})
    static void images() {
        String one = "thing a 9 2 lost 8 lends 3 sells 4 worth 5;thing b 2 0;set a earns 2 if week>1;set b earns 5 if in=1;needs 1 if home=0;"
            + "needs 1;luck 700;cousin 6 till 4;coin 9;weeks 7";
        String other = "thing b 6 1 lost 3 lends 1 sells 2 worth 7;thing h 4 0;set h earns 9 if week<2;set b h earns 1;needs 3 if week=3;"
            + "luck 20;cousin 9 till 5;coin 33;weeks 9";
        String[] books = {one, other, "thing a 9 0;needs 1 if in>0;coin 4;weeks 4", one};
        int[][] rows = {{0, 4, 0, 1, 0, 1, 2, 3, 0}, {0, 0, 1, 0, 1, 1, 1, 2, 7, 2, 4, 0}, {}, {0, 3, 0}};
        OutOfPawn x = new OutOfPawn();
        long[] told = new long[4];
        for (int k = 0; k < 4; k++) {
            Check.book(x, books[k]);
            Check.act(x, rows[k]);
            due("made, " + k, x.image(k), rows[k].length / 3);
            due("as it is", x.count(9), rows[k].length / 3);
            told[k] = all(x);
        }
        Check.rule(x, "like 5");
        Check.tape(x, "like 6");
        for (int k : new int[] {2, 0, 1, 0, 3, 2, 1, 3, 0, 0, 2}) {
            due("gone back to, " + k, x.back(k), rows[k].length / 3);
            due("all as it was, " + k, all(x), told[k]);
            due("and as if just told, " + k, all(x), all(told(books[k], rows[k])));
            due("the rule stays", x.count(8), 1);
            due("the tape stays", x.count(10), 6);
            x.row(0);
            x.act(60, 4, 0);
        }
        due("what hangs on one that is in", x.hangs(0), -4);
        due("the rule is as it was", x.rule(), 1);
        x.back(0);
        int[] counts = {3, 7, 9, 700, 6, 4, 2, 2, 2, 3};
        for (int what = 0; what < counts.length; what++) {
            due("count " + what, x.count(what), counts[what]);
        }
        int[] a = {9, 2, 8, 3, 4, 5};
        for (int what = 0; what < a.length; what++) {
            due("thing a, what " + what, x.thing(0, what), a[what]);
        }
        int[][] earned = {{0, 0, 2}, {1, 0, 1}, {2, 5, 1}, {3, 0, 1}};
        for (int[] of : earned) {
            due("earned by " + of[0], x.earned(of[0], 0, 0), of[1]);
            due("needed by " + of[0], x.earned(of[0], 0, 1), of[2]);
        }
        due("earned in week 2", x.earned(3, 2, 0), 2);
        due("it likes as it did", x.likes(0, 0, 0, 0, 0), 5);
        due("and the other", x.likes(1, 0, 0, 0, 0), 6);
    }

    private static OutOfPawn told(String book, int... acts) {
        OutOfPawn x = with(book);
        Check.act(x, acts);
        return x;
    }

    /** One number of all that a BOOK and a ROW tell. */
    private static long all(OutOfPawn x) {
        long all = 0;
        for (int what = 0; what < 10; what++) {
            all = all * 31 + (what == 8 ? 0 : x.count(what));
        }
        for (int i = 0; i < 8; i++) {
            for (int what = 0; what < 6; what++) {
                all = all * 31 + x.thing(i, what);
            }
            all = all * 31 + x.hangs(i);
            all = all * 31 + x.judged(i);
            all = all * 31 + x.best(i);
            all = all * 31 + x.borrowed(i);
        }
        for (int week = 0; week < 4; week++) {
            for (int set : new int[] {0, 1, 2, 3, 128, 130}) {
                all = all * 31 + x.earned(set, week, 0);
                all = all * 31 + x.earned(set, week, 1);
            }
            all = all * 31 + x.then(week, 0);
        }
        return all * 31 + x.holds(9, 20);
    }
}
