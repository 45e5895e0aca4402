/** The sentences of the Terms, part II: THINGS, WEEKS, and a ROW of ACTS week by week. */
final class WeekEdges {
    private static final int FETCH = 0;
    private static final int PUT = 1;
    private static final int SELL = 2;
    private static final int HALVE = 3;
    private static final int BORROW = 4;

    private WeekEdges() {
    }

    private static void due(String what, long got, long want) {
        Check.due(what, got, want);
    }

    private static OutOfPawn with(String book) {
        return Check.with(book);
    }

    /** A BOOK with a ROW: of each ACT its WEEK, sort and THING. */
    private static OutOfPawn row(String book, int... acts) {
        OutOfPawn x = with(book);
        Check.act(x, acts);
        return x;
    }

    /** JUDGED what 0 to 4. */
    private static void judged(String what, OutOfPawn x, int bad, int broke, int coin, int home, int gone) {
        Check.judged(what, x, bad, broke, coin, home, gone);
    }

    @Edge(promise = 12, says = "THINGS are IN (all at first), HOME, or GONE (lost, or the ticket sold).", broken = {
        "gone |= book.lostBy(week) & ~home;", "gone |= book.lostBy(week);",
        "gone |= book.lostBy(week) & ~home;", "",
        "            gone |= 1 << thing;\n", "",
        "            home = 0;\n            gone = 0;", "            home = 0;",
        "            home = 0;\n            gone = 0;", "            gone = 0;",
        "            home = 0;\n            gone = 0;", "            home = 1;\n            gone = 0;"})
    static void inHomeOrGone() {
        String book = "thing a 2 0;thing b 3 0 lost 2 sells 5;thing c 4 0 lost 1;coin 30;weeks 3";
        OutOfPawn x = row(book, 0, FETCH, 0, 0, FETCH, 1, 0, FETCH, 2);
        judged("all home, none lost", x, -1, -1, 21, 7, 0);
        x.row(0);
        judged("all in at first, two lost", x, -1, -1, 30, 0, 6);
        due("none home at first", x.then(0, 1), 0);
        judged("tickets sold", row(book, 0, SELL, 0, 0, SELL, 1), -1, -1, 35, 0, 7);
        judged("none told", with("coin 3"), -1, -1, 3, 0, 0);
    }

    @Edge(promise = 8, says = "OWED for one in a WEEK: its LOAN and what it RUNS times the WEEKS since it was put in (WEEK 0 at first).", broken = {
        "return loan[thing] + runs[thing] * week;", "return loan[thing] + runs[thing] * Math.max(0, week - 1);",
        "runs[thing] * (week - since[thing])", "runs[thing] * week",
        "runs[thing] * (week - since[thing])", "runs[thing] * (week + 1 - since[thing])",
        "                since[thing] = 0;\n", "",
        "            loan[thing] = book.lends[thing];\n", ""})
    static void owed() {
        String book = "thing a 10 3 lends 4;coin 100;weeks 10";
        OutOfPawn x = row(book, 0, FETCH, 0, 2, PUT, 0, 9, FETCH, 0);
        due("week 0", x.owed(0, 0), 10);
        due("week 1", x.owed(0, 1), 13);
        due("week 60", x.owed(0, 60), 190);
        due("put in week 2, fetched in week 9", x.judged(2), 100 - 10 + 4 - (4 + 3 * 7));
        x.row(2);
        Check.act(x, 2, FETCH, 0);
        due("put and fetched in one week", x.judged(2), 100 - 10 + 4 - 4);
        x.row(0);
        Check.act(x, 9, FETCH, 0);
        due("fetched in week 9", x.judged(2), 100 - 37);
        due("fetched in week 0", row(book, 0, FETCH, 0).judged(2), 90);
    }

    @Edge(promise = 9, says = "EARNED in a WEEK: of all sets all of whose THINGS are HOME, and whose TEST holds, together.", broken = {
        "(bits[i] & ~home) == 0", "(bits[i] & home) != 0",
        "(bits[i] & ~home) == 0", "bits[i] == home",
        "(holding >> i & 1) != 0 && (bits", "(bits",
        "together += amounts[i];", "together = Math.max(together, amounts[i]);"})
    static void earned() {
        OutOfPawn x = with("thing a 1 0;thing b 1 0;thing c 1 0;set a earns 1;set a b earns 2;set a b earns 4;set a b c earns 8;"
            + "set c earns 16 if home=1");
        int[] told = {0, 1, 0, 7, 16, 1, 0, 15};
        for (int home = 0; home < 8; home++) {
            due("earned by " + home, x.earned(home, 0, 0), told[home]);
        }
        due("no sets", with("thing a 1 0").earned(1, 0, 0), 0);
    }

    @Edge(promise = 9, says = "NEED in a WEEK: of all needs CLAUSES whose TEST holds (or without one), together.", broken = {
        "if (tests[i] == NONE || scene.valueAt(code, tests[i]) != 0L) {\n                    holding", "if (tests[i] != NONE && scene.valueAt(code, tests[i]) != 0L) {\n                    holding",
        "if (tests[i] == NONE || scene.valueAt(code, tests[i]) != 0L) {\n                    holding", "if (tests[i] == NONE) {\n                    holding",
        "together += amounts[i];", "together = amounts[i];"})
    static void need() {
        OutOfPawn x = with("thing a 1 0;needs 1;needs 2 if home=0;needs 4 if home=1;needs 8 if home=2;needs 1");
        due("none home", x.earned(0, 0, 1), 4);
        due("a home", x.earned(1, 0, 1), 6);
        due("no needs", with("thing a 1 0").earned(0, 0, 1), 0);
        due("24 needs", with("needs 1" + ";needs 1 if week=60".repeat(15) + ";needs 2".repeat(8)).earned(0, 60, 1), 32);
    }

    @Edge(promise = 12, says = "A WEEK: THINGS IN that are lost in it or ahead of it are GONE;", broken = {
        "lost[thing] != NONE && lost[thing] <= week;", "lost[thing] != NONE && lost[thing] < week;",
        "lost[thing] != NONE && lost[thing] <= week;", "lost[thing] != NONE && lost[thing] == week;",
        "lost[thing] != NONE && lost[thing] <= week;", "lost[thing] <= week;",
        "gone |= book.lostBy(week) & ~home;", "gone = book.lostBy(week) & ~home;"})
    static void lostInAWeek() {
        String book = "thing a 5 0 lost 2 lends 1;coin 20;weeks 5";
        judged("the week ahead", row(book, 1, FETCH, 0), -1, -1, 15, 1, 0);
        judged("its week", row(book, 2, FETCH, 0), 0, -1, 20, 0, 1);
        judged("behind it", row(book, 4, FETCH, 0), 0, -1, 20, 0, 1);
        judged("halved ahead of it", row(book, 1, HALVE, 0), -1, -1, 17, 0, 1);
        judged("put in its week, and fetched", row(book, 1, FETCH, 0, 2, PUT, 0, 2, FETCH, 0), -1, -1, 15, 1, 0);
        judged("put in its week", row(book, 1, FETCH, 0, 2, PUT, 0), -1, -1, 16, 0, 1);
        judged("put in its week, fetched in the next", row(book, 1, FETCH, 0, 2, PUT, 0, 3, FETCH, 0), 2, -1, 16, 0, 1);
        judged("put ahead of it", row(book, 0, FETCH, 0, 1, PUT, 0, 2, FETCH, 0), 2, -1, 16, 0, 1);
        judged("put in the last week: no week begins again", row(book, 1, FETCH, 0, 4, PUT, 0), -1, -1, 16, 0, 0);
        judged("lost behind the last week", with("thing a 5 0 lost 5;weeks 5"), -1, -1, 0, 0, 0);
        judged("lost in the last week", with("thing a 5 0 lost 4;weeks 5"), -1, -1, 0, 0, 1);
        judged("never lost", with("thing a 5 0;weeks 60"), -1, -1, 0, 0, 0);
        judged("sold stays gone", row("thing a 5 0;thing b 5 0 lost 2;weeks 5", 0, SELL, 0), -1, -1, 0, 0, 3);
    }

    @Edge(promise = 12, says = "what one has of the cousin, if it is his WEEK, is paid back;", broken = {
        "if (hasBorrowed && week == book.cousinWeek) {", "if (week == book.cousinWeek) {",
        "if (hasBorrowed && week == book.cousinWeek) {", "if (hasBorrowed && week == book.cousinWeek + 1) {",
        "if (hasBorrowed && week == book.cousinWeek) {", "if (hasBorrowed && week >= book.cousinWeek) {",
        "coin -= book.cousinLends;", "",
        "if (coin < book.cousinLends) {", "if (coin <= book.cousinLends) {",
        "            hasBorrowed = false;\n", ""})
    static void paidBack() {
        OutOfPawn x = row("coin 5;cousin 8 till 3;weeks 5;needs 4 if week=1", 0, BORROW, 0);
        due("borrowed", x.then(0, 0), 13);
        due("needed", x.then(1, 0), 9);
        due("the week ahead of his", x.then(2, 0), 9);
        due("his week", x.then(3, 0), 1);
        due("once", x.then(4, 0), 1);
        x.row(0);
        due("nothing had of him", x.then(4, 0), 1);
        judged("all that is there", row("cousin 8 till 1;weeks 2", 0, BORROW, 0), -1, -1, 0, 0, 0);
    }

    @Edge(promise = 12, says = "then come ACTS; then EARNED is had (if there is work), then the NEED is paid, by what is HOME then.", broken = {
        "                startWeek(week);\n                if (isWell()) {\n                    next = doActs(row, next, week);\n                }", "                next = doActs(row, next, week);\n                if (isWell()) {\n                    startWeek(week);\n                }",
        "            int in = thingsIn();\n            if (hasWork) {", "            int in = thingsIn();\n            if (coin < book.needing(scene, week, home, in)) {\n                brokeWeek = week;\n                return;\n            }\n            if (hasWork) {",
        "            if (hasWork) {\n", "            if (week >= 0) {\n",
        "int need = book.needing(scene, week, home, in);", "int need = book.needing(scene, week, week == 0 ? 0 : homeThen[week - 1], in);",
        "                coin += book.earnings(scene, week, home, in);", "                coin += book.earnings(scene, week, week == 0 ? 0 : homeThen[week - 1], in);"})
    static void theOrderOfAWeek() {
        judged("paid back ahead of acts", row("thing a 10 0;coin 5;cousin 8 till 2;weeks 4", 0, BORROW, 0, 2, FETCH, 0), 1, -1, 5, 0, 0);
        String two = "thing a 5 0;set a earns 5;thing b 5 0;coin 5;weeks 2";
        judged("earned behind acts", row(two, 0, FETCH, 0, 0, FETCH, 1), 1, -1, 0, 1, 0);
        judged("in the next week", row(two, 0, FETCH, 0, 1, FETCH, 1), -1, -1, 5, 3, 0);
        due("fetched, it earns in this week", row(two, 0, FETCH, 0).then(0, 0), 5);
        judged("put, it does not", row("thing a 5 0 lends 1;set a earns 5;coin 5;weeks 3", 0, FETCH, 0, 1, PUT, 0), -1, -1, 6, 0, 0);
        judged("the need is paid of what is earned", row("thing a 5 0;set a earns 5;needs 5;coin 5;weeks 3", 0, FETCH, 0), -1, -1, 0, 1, 0);
        judged("the need by what is home then", row("thing a 5 0;needs 3 if home=0;coin 5;weeks 1", 0, FETCH, 0), -1, -1, 0, 1, 0);
        OutOfPawn x = row("thing a 5 0;set a earns 5;needs 1 if home=1;coin 5;luck 0;weeks 1", 0, FETCH, 0);
        judged("judged with work", x, -1, -1, 4, 1, 0);
        due("without work nothing is earned, the need is paid", x.holds(0, 1), 0);
    }

    @Edge(promise = 12, says = "Whoever can't pay back, or the NEED, is BROKE in that WEEK: nothing more goes on, the coin stays as it was ahead of that.", broken = {
        "if (coin < need) {", "if (coin <= need) {",
        "if (coin < need) {", "if (coin + 1 < need) {",
        "                brokeWeek = week;\n                return;\n            }\n            coin -= need;", "                brokeWeek = week;\n                coin = 0;\n                return;\n            }\n            coin -= need;",
        "                    brokeWeek = week;\n                } else {", "                    brokeWeek = week;\n                    coin -= book.cousinLends;\n                } else {",
        "                    brokeWeek = week;\n                } else {", "                    coin = 0;\n                } else {",
        "                if (!isWell()) {\n                    return;\n                }\n            }\n            if (next", "            }\n            if (next"})
    static void broke() {
        judged("just enough, then none", with("needs 3;coin 3;weeks 2"), -1, 1, 0, 0, 0);
        judged("just enough to the end", with("needs 3;coin 6;weeks 2"), -1, -1, 0, 0, 0);
        judged("one short, the coin stays", with("needs 4;coin 3"), -1, 0, 3, 0, 0);
        judged("no act is come to, nothing is lost", row("thing a 1 0;thing b 1 0 lost 1;needs 4;coin 3;weeks 3", 1, FETCH, 0), -1, 0, 3, 0, 0);
        OutOfPawn x = row("thing a 2 0;thing b 1 0 lost 2;coin 1;cousin 4 till 2;weeks 4", 0, BORROW, 0, 0, FETCH, 0, 2, HALVE, 1);
        judged("one short of what is to be paid back", x, -1, 2, 3, 1, 2);
        due("the week ahead is done", x.then(1, 0), 3);
        due("that week is not", x.then(2, 0), -2);
        judged("what was earned is had", row("thing a 3 0;set a earns 4;needs 9;coin 5", 0, FETCH, 0), -1, 0, 6, 1, 0);
    }

    @Edge(promise = 10, says = "A ROW of ACTS, 60 at most, each of a WEEK (none ahead of the one told last), a sort, a THING:", broken = {
        "i < row.count && i < MOST_ACTS; i++", "i < row.count && i < MOST_ACTS - 1; i++",
        "MOST_ACTS = 60;", "MOST_ACTS = 61;",
        "weeks[count - 1] <= week);", "true);",
        "weeks[count - 1] <= week);", "weeks[0] <= week);"})
    static void sixtyActs() {
        OutOfPawn x = with("thing a 1 0 lends 1;coin 1;weeks 60");
        for (int i = 0; i < 60; i++) {
            due("act " + i, x.act(i / 2, i % 2, 0), i + 1);
        }
        judged("all are done", x, -1, -1, 1, 0, 0);
        due("a 61st", x.act(60, FETCH, 0), -1);
        due("home ahead of the last", x.then(28, 1), 0);
        x.row(59);
        judged("all but the last", x, -1, -1, 0, 1, 0);
        due("ahead of the one told last", x.act(28, PUT, 0), -1);
        due("the same week", x.act(29, PUT, 0), 60);
    }

    @Edge(promise = 12, says = "0 FETCH: OWED is paid: it is HOME.", broken = {
        "!isIn(thing) || coin < owedNow(thing, week)", "!isIn(thing) || coin <= owedNow(thing, week)",
        "!isIn(thing) || coin < owedNow(thing, week)", "!isIn(thing)",
        "            coin -= owedNow(thing, week);\n            home", "            coin -= loan[thing];\n            home",
        "            home |= 1 << thing;\n            fetchWeek", "            home ^= 2 << thing;\n            fetchWeek"})
    static void fetch() {
        String book = "thing a 10 2;coin 14;weeks 4";
        judged("coin as owed", row(book, 2, FETCH, 0), -1, -1, 0, 1, 0);
        judged("more than coin is owed", row(book, 3, FETCH, 0), 0, -1, 14, 0, 0);
        judged("less is owed", row(book, 0, FETCH, 0), -1, -1, 4, 1, 0);
        judged("thing h", row("thing h 1 0;coin 1", 11, FETCH, 7), -1, -1, 0, 128, 0);
    }

    @Edge(promise = 12, says = "1 PUT: one that is HOME is IN again from that WEEK: one gets what it is lent again for, that is its LOAN now.", broken = {
        "            coin += book.lends[thing];\n", "",
        "            loan[thing] = book.lends[thing];\n", "            loan[thing] = book.loan[thing];\n",
        "            since[thing] = week;\n            return true;\n        }\n\n        private boolean sellOne", "            return true;\n        }\n\n        private boolean sellOne",
        "            home &= ~(1 << thing);\n", "",
        "(home >> thing & 1) == 0) {\n                return false;", "(home >> thing & 1) == 0 || book.lends[thing] == 0) {\n                return false;"})
    static void put() {
        String book = "thing a 10 2 lends 7;thing b 1 0;coin 30;weeks 6";
        judged("in the same week", row(book, 0, FETCH, 0, 0, PUT, 0), -1, -1, 27, 0, 0);
        judged("fetched again", row(book, 0, FETCH, 0, 1, PUT, 0, 3, FETCH, 0), -1, -1, 30 - 10 + 7 - 11, 1, 0);
        judged("put again and again", row(book, 0, FETCH, 0, 0, PUT, 0, 0, FETCH, 0, 5, PUT, 0), -1, -1, 30 - 10 + 7 - 7 + 7, 0, 0);
        judged("lent nothing", row(book, 0, FETCH, 1, 0, PUT, 1), -1, -1, 29, 0, 0);
        judged("nothing is owed then", row(book, 0, FETCH, 1, 0, PUT, 1, 5, FETCH, 1), -1, -1, 29, 2, 0);
        judged("with no coin", row("thing a 1 1 lends 0;coin 1;weeks 3", 0, FETCH, 0, 2, PUT, 0, 2, FETCH, 0), -1, -1, 0, 1, 0);
    }

    @Edge(promise = 12, says = "2 SELL its ticket: one that is IN is GONE: one gets what that sells for.", broken = {
        "            coin += book.sells[thing];\n", "",
        "            gone |= 1 << thing;\n", "            home |= 1 << thing;\n",
        "sellOne(int thing) {\n            if (!isIn(thing)) {", "sellOne(int thing) {\n            if (!isIn(thing) || book.sells[thing] == 0) {",
        "sellOne(int thing) {\n            if (!isIn(thing)) {", "sellOne(int thing) {\n            if (thing < 0) {"})
    static void sell() {
        String book = "thing a 10 0 sells 6 lends 1;thing b 5 0;coin 20;weeks 3";
        judged("sold", row(book, 0, SELL, 0), -1, -1, 26, 0, 1);
        judged("in the last week", row(book, 2, SELL, 0), -1, -1, 26, 0, 1);
        judged("for nothing", row(book, 0, SELL, 1), -1, -1, 20, 0, 2);
        judged("twice", row(book, 0, SELL, 0, 0, SELL, 0), 1, -1, 26, 0, 1);
        judged("of one that was put in again", row(book, 0, FETCH, 0, 1, PUT, 0, 1, SELL, 0), -1, -1, 20 - 10 + 1 + 6, 0, 1);
        judged("of one at home", row(book, 0, FETCH, 0, 0, SELL, 0), 1, -1, 10, 1, 0);
        String lost = "thing a 10 0 sells 6 lost 1;coin 20;weeks 3";
        judged("ahead of the week in which it is lost", row(lost, 0, SELL, 0), -1, -1, 26, 0, 1);
        judged("in that week", row(lost, 1, SELL, 0), 0, -1, 20, 0, 1);
    }

    @Edge(promise = 12, says = "3 HALVE: half of OWED, upwards, is paid, once for each THING while it is IN: its LOAN is the rest then, it RUNS by half as much, downwards, from that WEEK on (if it is PUT in again as much as at first).", broken = {
        "int half = (owed + 1) / 2;", "int half = owed / 2;",
        "if (coin < half) {", "if (coin <= half) {",
        "if (coin < half) {", "if (coin < owed) {",
        "            halved |= 1 << thing;\n", "",
        "            halved |= 1 << thing;\n", "            halved = 1 << thing;\n",
        "            halved &= ~(1 << thing);\n", "            halved = ~(1 << thing);\n",
        "            halved &= ~(1 << thing);\n", "            halved = 0;\n",
        "runs[thing] = runs[thing] / 2;", "runs[thing] = runs[thing] / 3;",
        "!isIn(thing) || (halved >> thing & 1) != 0", "!isIn(thing) || halved != 0",
        "            loan[thing] = owed - half;\n", "            loan[thing] = half;\n",
        "            loan[thing] = owed - half;\n", "            loan[thing] = loan[thing] / 2;\n",
        "runs[thing] = runs[thing] / 2;", "runs[thing] = (runs[thing] + 1) / 2;",
        "runs[thing] = runs[thing] / 2;", "",
        "            since[thing] = week;\n            return true;\n        }\n\n        private boolean borrowOnce", "            return true;\n        }\n\n        private boolean borrowOnce",
        "            runs[thing] = book.runs[thing];\n            since", "            since",
        "            halved &= ~(1 << thing);\n", "",
        "            halved = 0;\n", ""})
    static void halve() {
        String book = "thing a 11 3 lends 6;thing b 1 1;coin 40;weeks 8";
        OutOfPawn x = row(book, 1, HALVE, 0);
        judged("half of 14", x, -1, -1, 33, 0, 0);
        Check.act(x, 1, FETCH, 0);
        judged("the rest in the same week", x, -1, -1, 26, 1, 0);
        x.row(1);
        Check.act(x, 3, FETCH, 0);
        judged("it runs by 1 from week 1 on", x, -1, -1, 24, 1, 0);
        Check.act(x, 3, PUT, 0, 5, FETCH, 0);
        judged("put in again it runs by 3", x, -1, -1, 24 + 6 - 12, 1, 0);
        x.row(3);
        Check.act(x, 5, HALVE, 0);
        judged("put in again it can be halved", x, -1, -1, 24 + 6 - 6, 0, 0);
        Check.act(x, 6, HALVE, 0);
        judged("once while it is in", x, 4, -1, 24, 0, 0);
        judged("upwards: 6 of 11", row(book, 0, HALVE, 0), -1, -1, 34, 0, 0);
        judged("the rest: 5 of 11", row(book, 0, HALVE, 0, 0, FETCH, 0), -1, -1, 29, 1, 0);
        judged("all of 1, it runs by nothing", row(book, 0, HALVE, 1, 7, FETCH, 1), -1, -1, 39, 2, 0);
        judged("once for each thing", row(book, 0, HALVE, 0, 0, HALVE, 1), -1, -1, 33, 0, 0);
        judged("not twice", row(book, 0, HALVE, 0, 7, HALVE, 0), 1, -1, 34, 0, 0);
        judged("not twice, another between", row(book, 0, HALVE, 0, 0, HALVE, 1, 0, HALVE, 0), 2, -1, 33, 0, 0);
        judged("another was put in", row(book, 0, FETCH, 1, 0, PUT, 1, 0, HALVE, 0), -1, -1, 33, 0, 0);
        judged("another was put in between", row(book, 0, FETCH, 1, 0, HALVE, 0, 0, PUT, 1, 0, HALVE, 0), 3, -1, 33, 0, 0);
        judged("it runs by 4 of 9", row("thing a 10 9;coin 40;weeks 3", 0, HALVE, 0, 2, FETCH, 0), -1, -1, 22, 1, 0);
        judged("coin as the half", row("thing a 11 3;coin 6", 0, HALVE, 0), -1, -1, 0, 0, 0);
        judged("coin one short of the half", row("thing a 11 3;coin 5", 0, HALVE, 0), 0, -1, 5, 0, 0);
        judged("half of nothing", row("thing a 1 0;coin 1", 0, FETCH, 0, 0, PUT, 0, 0, HALVE, 0), -1, -1, 0, 0, 0);
    }

    @Edge(promise = 12, says = "4 BORROW (THING 0): once, ahead of the cousin's WEEK, if that is one of the BOOK's: one gets what he lends.", broken = {
        "if (hasBorrowed || !book.cousinLendsIn(week)) {", "if (!book.cousinLendsIn(week)) {",
        "cousinWeek < weeks && week < cousinWeek", "cousinWeek < weeks && week <= cousinWeek",
        "cousinWeek < weeks && week < cousinWeek", "week < cousinWeek",
        "cousinWeek < weeks && week < cousinWeek", "cousinWeek < weeks - 1 && week < cousinWeek",
        "            coin += book.cousinLends;\n", "",
        "            hasBorrowed = true;\n", ""})
    static void borrow() {
        String book = "coin 5;cousin 4 till 3;weeks 4";
        OutOfPawn x = row(book, 0, BORROW, 0);
        due("had in week 0", x.then(0, 0), 9);
        judged("week 0", x, -1, -1, 5, 0, 0);
        x = row(book, 2, BORROW, 0);
        due("had in week 2", x.then(2, 0), 9);
        judged("the week ahead of his", x, -1, -1, 5, 0, 0);
        judged("his week", row(book, 3, BORROW, 0), 0, -1, 5, 0, 0);
        judged("behind his week", row("coin 5;cousin 4 till 1;weeks 4", 2, BORROW, 0), 0, -1, 5, 0, 0);
        judged("twice", row(book, 0, BORROW, 0, 1, BORROW, 0), 1, -1, 9, 0, 0);
        judged("behind being paid back", row(book, 0, BORROW, 0, 3, BORROW, 0), 1, -1, 5, 0, 0);
        judged("his week is the first that is none of the book's", row("coin 5;cousin 4 till 4;weeks 4", 0, BORROW, 0), 0, -1, 5, 0, 0);
        judged("no cousin", row("coin 5;weeks 4", 0, BORROW, 0), 0, -1, 5, 0, 0);
        judged("without a book", row("weeks 12", 0, BORROW, 0), 0, -1, 0, 0, 0);
        judged("he lends nothing", row("coin 5;cousin 0 till 3;weeks 4", 0, BORROW, 0), -1, -1, 5, 0, 0);
        judged("the most, in 60 weeks", row("cousin 9999 till 59;weeks 60", 58, BORROW, 0), -1, -1, 0, 0, 0);
    }

    @Edge(promise = 12, says = "None is done for which the coin is not enough, or the THING not where it must be.", broken = {
        "(home >> thing & 1) == 0) {\n                return false;", "(home >> thing & 1) == 0 && isIn(thing)) {\n                return false;",
        "(home >> thing & 1) == 0) {\n                return false;", "(home >> thing & 1) == 0 && !isIn(thing)) {\n                return false;",
        "!isIn(thing) || (halved", "(gone >> thing & 1) != 0 || (halved",
        "!isIn(thing) || (halved", "(home >> thing & 1) != 0 || (halved",
        "!isIn(thing) || coin < owedNow(thing, week)", "(gone >> thing & 1) != 0 || coin < owedNow(thing, week)",
        "!isIn(thing) || coin < owedNow(thing, week)", "(home >> thing & 1) != 0 || coin < owedNow(thing, week)",
        "sellOne(int thing) {\n            if (!isIn(thing)) {", "sellOne(int thing) {\n            if ((gone >> thing & 1) != 0) {",
        "sellOne(int thing) {\n            if (!isIn(thing)) {", "sellOne(int thing) {\n            if ((home >> thing & 1) != 0) {",
        "            if (coin < half) {\n                return false;\n            }\n", ""})
    static void notEnoughOrNotThere() {
        String book = "thing a 4 0 sells 1 lends 1;thing b 1 0;coin 10;weeks 3";
        String lost = "thing a 4 0 sells 1 lends 1 lost 1;thing b 1 0;coin 10;weeks 3";
        for (int sort = FETCH; sort <= HALVE; sort++) {
            boolean ofHome = sort == PUT;
            due("of one that is in, sort " + sort, row(book, 1, sort, 0).judged(0), ofHome ? 0 : -1);
            due("of one that is home, sort " + sort, row(book, 0, FETCH, 0, 1, sort, 0).judged(0), ofHome ? -1 : 1);
            judged("of one that is sold, sort " + sort, row(book, 0, SELL, 0, 1, sort, 0), 1, -1, 11, 0, 1);
            judged("of one that is lost, sort " + sort, row(lost, 1, sort, 0), 0, -1, 10, 0, 1);
        }
        judged("no coin to fetch it", row("thing a 4 0;coin 3", 0, FETCH, 0), 0, -1, 3, 0, 0);
        judged("no coin to halve it", row("thing a 4 0;coin 1", 0, HALVE, 0), 0, -1, 1, 0, 0);
    }

    @Edge(promise = 12, says = "JUDGED, with work in each WEEK: the first ACT that can't be (at it all stops), or the WEEK in which one is BROKE, coin, what is HOME and GONE at the end.", broken = {
        "        life.liveByRow(acts, ALWAYS_WORK);\n        switch", "        life.liveByRow(acts, 0L);\n        switch",
        "                if (isWell()) {\n                    endWeek(week, (work", "                if (brokeWeek == NONE) {\n                    endWeek(week, (work",
        "                    badAct = i;\n                    return i;", "                    badAct = i;",
        "                    badAct = i;\n                    return i;", "                    badAct = badAct == NONE ? i : badAct;",
        "                if (!isWell()) {\n                    return;\n                }\n            }\n            if (next", "                if (brokeWeek != NONE) {\n                    return;\n                }\n            }\n            if (badAct == NONE && next"})
    static void judgedWithWork() {
        judged("with work, whatever the luck", row("thing a 1 0;set a earns 2;luck 0;coin 1;weeks 3", 0, FETCH, 0), -1, -1, 6, 1, 0);
        String book = "thing a 1 0;thing b 9 0 lost 2;thing c 1 0;set a earns 2;coin 3;weeks 3;needs 1";
        judged("all stops at it", row(book, 0, FETCH, 0, 1, FETCH, 1, 1, FETCH, 2), 1, -1, 3, 1, 0);
        judged("the first of two", row(book, 0, FETCH, 1, 0, PUT, 0), 0, -1, 3, 0, 0);
        judged("in the last week", row(book, 2, FETCH, 0, 2, FETCH, 0), 1, -1, 0, 1, 2);
        judged("to the end", row(book, 0, FETCH, 0), -1, -1, 5, 1, 2);
        judged("broke at the end", with("needs 1;coin 2;weeks 3"), -1, 2, 0, 0, 0);
    }

    @Edge(promise = 12, says = "(An ACT of a WEEK that is not one of the BOOK's can't be, and is come to behind the last WEEK, all being done till then.)", broken = {
        "            if (next < row.count) {\n                badAct = next;\n            }\n", "",
        "            if (next < row.count) {\n                badAct = next;\n            }\n", "            if (next < row.count) {\n                badAct = row.count - 1;\n            }\n",
        "            begin();\n            int next = 0;", "            begin();\n            if (row.count > 0 && row.weeks[row.count - 1] >= book.weeks) {\n                badAct = row.count - 1;\n                return;\n            }\n            int next = 0;"})
    static void actsOfNoWeekOfTheBook() {
        String book = "thing a 1 0;thing b 1 0 lost 2;set a earns 2;coin 5;weeks 3";
        OutOfPawn x = row(book, 0, FETCH, 0, 3, SELL, 1, 3, PUT, 0);
        judged("all was done till then", x, 1, -1, 10, 1, 2);
        due("the last week is done", x.then(2, 0), 10);
        judged("of week 60", row(book, 60, FETCH, 0), 0, -1, 5, 0, 2);
        judged("to borrow", row("coin 5;cousin 4 till 2;weeks 3", 0, BORROW, 0, 3, BORROW, 0), 1, -1, 5, 0, 0);
        judged("of the last week", row(book, 2, FETCH, 0), -1, -1, 6, 1, 2);
        judged("an earlier one can't be", row(book, 0, PUT, 0, 3, FETCH, 0), 0, -1, 5, 0, 0);
        judged("broke ahead of it", row("thing a 1 0;needs 1;weeks 3", 3, FETCH, 0), -1, 0, 0, 0, 0);
        judged("week 12 without a book told", row("coin 1", 12, BORROW, 0), 0, -1, 1, 0, 0);
    }
}
