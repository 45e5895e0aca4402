/** The sentences of the Terms, part III: PLANS, and what hangs on one THING or one WEEK in them. */
final class PlanEdges {
    private static final String SHOP = "thing a 10 1 worth 30;thing b 4 0 lost 2 sells 3;thing c 5 1;"
        + "set a earns 6;set a c earns 3;coin 14;weeks 4;needs 2";
    private static final String COUSIN = "thing a 10 0;set a earns 4;coin 3;weeks 5;cousin 8 till 4";

    private PlanEdges() {
    }

    private static void due(String what, long got, long want) {
        Check.due(what, got, want);
    }

    private static OutOfPawn with(String book) {
        return Check.with(book);
    }

    private static int best(String book) {
        return with(book).best(0);
    }

    @Edge(promise = 15, says = "PLANS: in each WEEK any THINGS IN are FETCHED (no other ACTS), with work in each WEEK, never BROKE.", broken = {
        "int in = book.things & ~book.lostBy(week) & ~barred;", "int in = book.things & ~barred;",
        "at[set] >= owed) {", "at[set] > owed) {",
        "for (int home = 0; home <= THINGS; home++) {", "for (int home = 0; home < THINGS; home++) {",
        "for (int in = 0; in + home <= THINGS; in++) {", "for (int in = 0; in + home < THINGS; in++) {",
        "at[set] = Math.max(NONE, at[set] + gain[from + set]);", "at[set] = Math.max(0, at[set] + gain[from + set]);",
        "at[set] = Math.max(NONE, at[set] + gain[from + set]);", "at[set] = at[set] + gain[from + set] <= 0 ? NONE : at[set] + gain[from + set];",
        "                            - book.needs.together(needing[at], set);", "                            - 0 * book.needs.together(needing[at], set);",
        "for (int week = 0; week < book.weeks && week < MOST_WEEKS; week++) {\n                pass(line, week, 0, gains);", "for (int week = 0; week < book.weeks - 1 && week < MOST_WEEKS; week++) {\n                pass(line, week, 0, gains);"})
    static void plans() {
        String three = "thing a 1 0;thing b 2 0;thing h 3 0;set a b h earns 9;weeks 1;";
        due("all in one week, all coin", best(three + "coin 6"), 9);
        due("coin one short", best(three + "coin 5"), 5);
        due("none, if that is best", best("thing a 1 0;coin 1"), 1);
        due("with work, whatever the luck", best("thing a 5 0;set a earns 9;luck 0;coin 5;weeks 1"), 9);
        due("nothing is sold, put or borrowed", best("thing a 5 0 sells 9 lends 99;cousin 9 till 1;coin 1;weeks 2"), 1);
        due("none in the week in which it is lost", best("thing a 2 0 lost 1;thing b 1 0;set b earns 2;set a earns 9;coin 1;weeks 2"), 4);
        due("one ahead of it", best("thing a 2 0 lost 2;thing b 1 0;set b earns 2;set a earns 9;coin 1;weeks 2"), 11);
        due("broke in the last week", best("needs 1;coin 1;weeks 2"), -2);
        due("broke in the last of 60", best("needs 1;coin 59;weeks 60"), -2);
        due("not broke in 60", best("needs 1;coin 60;weeks 60"), 0);
        due("the need of what is earned", best("thing a 1 0;set a earns 1;needs 1;coin 1;weeks 3"), 0);
        String eight = "thing a 1 0;thing b 1 0;thing c 1 0;thing d 1 0;thing e 1 0;thing f 1 0;thing g 1 0;thing h 1 0;";
        due("eight home", best(eight + "set a b c d e f g h earns 5 if home=8 and in=0;coin 10;weeks 2"), 12);
        due("eight in", best(eight.replace(" 1 0", " 99 0") + "needs 1 if in=8 and home=0;coin 5;weeks 2"), 3);
        due("what is lost is in no more", best("thing a 9 0 lost 1;needs 1 if in=1;coin 3;weeks 3"), 2);
    }

    @Edge(promise = 14, says = "SOON: the first WEEK at the end of which all THINGS can be HOME.", broken = {
        "if (coinAt(week, book.things) >= 0) {", "if (coinAt(week, book.things) > 0) {",
        "if (coinAt(week, book.things) >= 0) {", "if (coinAt(week, last) >= 0) {",
        "if (coinAt(week, book.things) >= 0) {", "if (most >= 0 && coinAt(week, book.things) >= 0) {",
        "if (coinAt(week, book.things) >= 0) {\n                    return week;", "if (coinAt(week, book.things) >= 0) {\n                    return week + 1;"})
    static void soon() {
        due("all the coin", with("thing a 5 0;thing h 1 0;coin 6").soon(), 0);
        due("in the last week", with("thing a 3 0;thing b 1 0;set b earns 1;coin 1;weeks 4").soon(), 3);
        due("not by the plan", with("thing a 5 0;set a earns 9 if week=3;coin 5;weeks 4").soon(), 0);
        due("broke at the end of that week", with("thing a 3 0;needs 1;coin 3;weeks 2").soon(), -1);
        due("broke later, no plan", with("thing a 3 0;needs 1;coin 4;weeks 2").soon(), 0);
        due("no things", with("needs 1;coin 1;weeks 2").soon(), 0);
    }

    @Edge(promise = 15, says = "BEST: the most coin that can be there at the end; END: what is HOME then: of several the least as a number.", broken = {
        "                if (line[set] >= 0 && line[set] == most) {\n                    return set;", "                if (line[SETS - 1 - set] >= 0 && line[SETS - 1 - set] == most) {\n                    return SETS - 1 - set;",
        "                most = Math.max(most, at[set]);", "                most = at[set] >= 0 ? at[set] : most;",
        "                most = Math.max(most, at[set]);", "                most = set > 0 ? Math.max(most, at[set]) : most;",
        "                if (line[set] >= 0 && line[set] == most) {\n                    return set;", "                if (line[set] > 0 && line[set] == most) {\n                    return set;",
        "                if (line[set] >= 0 && line[set] == most) {\n                    return set;", "                if (set > 0 && line[set] >= 0 && line[set] == most) {\n                    return set;"})
    static void bestAndEnd() {
        OutOfPawn x = with("thing a 2 0;thing b 2 0;set a earns 1;set b earns 1;coin 3;weeks 2");
        due("as much with a, b or none", x.best(0), 3);
        due("none is the least", x.best(1), 0);
        x = with("thing a 2 0;thing b 2 0;set a earns 1;set b earns 1;coin 3;weeks 3");
        due("as much with a, b or both", x.best(0), 4);
        due("a is the least", x.best(1), 1);
        x = with("thing b 2 0;thing h 2 0;set b earns 3;set h earns 3;coin 2;weeks 1");
        due("b or h", x.best(0), 3);
        due("b is the least", x.best(1), 2);
        x = with("thing a 2 0;thing h 2 0;set h earns 3;coin 2;weeks 1");
        due("h alone", x.best(1), 128);
        due("no coin at the end", with("needs 1;coin 12").best(0), 0);
        due("no coin at the end but with a", with("thing a 1 0;set a earns 1;needs 1;coin 1;weeks 3").best(1), 1);
    }

    @Edge(promise = 15, says = "RICHEST: the most of coin and what THINGS are worth that are HOME, together.", broken = {
        "richest = Math.max(richest, coin + worthOf(set));", "richest = Math.max(richest, Math.max(coin, worthOf(set)));",
        "richest = Math.max(richest, coin + worthOf(set));", "richest = Math.max(richest, coin + worthOf(book.things));",
        "richest = Math.max(richest, coin + worthOf(set));", "richest = set == last ? coin + worthOf(set) : richest;",
        "int coin = coinAt(book.weeks - 1, set);", "int coin = coinAt(0, set);",
        "                if (coin >= 0) {\n                    richest", "                if (coin > 0) {\n                    richest"})
    static void richest() {
        due("worth one more than it costs", with("thing a 5 0 worth 6;coin 5").best(2), 6);
        due("worth one less", with("thing a 5 0 worth 4;coin 5").best(2), 5);
        due("two, with coin left", with("thing a 5 0 worth 6;thing h 5 0 worth 7;coin 11;weeks 1").best(2), 14);
        due("one of two", with("thing a 5 0 worth 6;thing h 5 0 worth 7;coin 9;weeks 1").best(2), 11);
        due("not of one broke for it", with("thing a 5 0 worth 9999;needs 1;coin 5;weeks 1").best(2), 4);
        due("at the end", with("thing a 5 0 worth 9;needs 2 if week=1;coin 5;weeks 2").best(2), 3);
        due("no things", with("coin 5").best(2), 5);
        due("without a worth", with("thing a 5 0;coin 5").best(2), 5);
    }

    @Edge(promise = 15, says = "STATES: pairs of a WEEK and what can be HOME at its end.", broken = {
        "                if (line[set] >= 0) {\n                    states++;", "                if (line[set] > 0) {\n                    states++;",
        "            states = 0;\n            everHome = 0;", "            everHome = 0;",
        "            for (int set = 0; set <= book.things && set < SETS; set++) {\n                if (line[set] >= 0) {\n                    states", "            for (int set = 0; set < book.things && set < SETS; set++) {\n                if (line[set] >= 0) {\n                    states",
        "            for (int set = 0; set <= book.things && set < SETS; set++) {\n                if (line[set] >= 0) {\n                    states", "            for (int set = 1; set <= book.things && set < SETS; set++) {\n                if (line[set] >= 0) {\n                    states"})
    static void states() {
        OutOfPawn x = with("thing a 1 0;coin 1;weeks 3");
        due("none or a, in each of 3 weeks", x.best(3), 6);
        Check.book(x, "thing a 1 0;thing b 1 0;coin 1;weeks 2");
        due("none, a or b", x.best(3), 6);
        Check.book(x, "thing a 1 0;needs 1 if home=1;coin 1;weeks 1");
        due("broke with a", x.best(3), 1);
        Check.book(x, "thing a 1 0 lost 1;coin 1;weeks 2");
        due("fetched ahead of being lost", x.best(3), 4);
        Check.book(x, "needs 1");
        due("broke at once", x.best(3), 0);
        Check.book(x, "thing a 1 0;thing b 1 0;thing c 1 0;thing d 1 0;thing e 1 0;thing f 1 0;thing g 1 0;thing h 1 0;coin 8;weeks 60");
        due("all there may be", x.best(3), 256 * 60);
    }

    @Edge(promise = 15, says = "NEVER: THINGS that are HOME in no STATE.", broken = {
        "everHome |= set;", "everHome = set;",
        "            states = 0;\n            everHome = 0;", "            states = 0;",
        "return book.things & ~all.everHome;", "return ~all.everHome;",
        "everHome |= set;", "everHome |= line[set] > 0 ? set : 0;"})
    static void never() {
        OutOfPawn x = with("thing a 1 0;thing b 1 0;coin 1;weeks 1");
        due("each alone", x.best(4), 0);
        Check.book(x, "thing a 5 0;thing h 1 0;coin 1;weeks 2");
        due("a is too dear", x.best(4), 1);
        Check.book(x, "thing a 1 0;needs 1 if home=1;coin 1;weeks 1");
        due("broke with a", x.best(4), 1);
        Check.book(x, "thing a 1 0;needs 2 if home=1 and week=1;coin 1;weeks 2");
        due("broke with a later", x.best(4), 0);
        Check.book(x, "needs 1");
        due("no things", x.best(4), 0);
    }

    @Edge(promise = 15, says = "LET: THINGS not HOME at the END.", broken = {
        "default: return book.things & ~all.last;", "default: return ~all.last;",
        "default: return book.things & ~all.last;", "default: return book.things & ~all.everHome;"})
    static void let() {
        due("a of a and h", with("thing a 1 0;thing h 1 0;set h earns 5;coin 1;weeks 1").best(5), 1);
        due("none", with("thing a 1 0;set a earns 5;coin 1;weeks 1").best(5), 0);
        due("all", with("thing a 1 0;thing h 1 0;coin 9;weeks 1").best(5), 129);
        due("no things", with("coin 1").best(5), 0);
    }

    @Edge(promise = 16, says = "THE PLAN: from the last WEEK back, with END at its end: ahead of each WEEK of all that can be HOME at the end of the one ahead (of WEEK 0: nothing) and lead to what is HOME at its end with the most coin that can be there then, the least as a number.", broken = {
        "for (int ahead = 0; ahead < set; ahead++) {", "for (int ahead = set - 1; ahead >= 0; ahead--) {",
        "coin >= 0 && coin - costOf(added, week) == due", "coin >= 0 && coin - costOf(added, week) <= due",
        "int ahead = week == 0 ? 0 : setAhead(week, set);", "int ahead = week == 0 ? set : setAhead(week, set);",
        "(added & ~in) == 0 && coin >= 0", "coin >= 0",
        "            int set = last;\n", "            int set = book.things;\n"})
    static void thePlan() {
        OutOfPawn x = with("thing a 4 0;set a earns 5 if week=3;coin 4;weeks 4");
        due("the least ahead: as late as may be", x.fetched(0), 3);
        x = with("thing a 4 1;set a earns 9 if week=3;coin 4;weeks 4");
        due("it costs more later", x.fetched(0), 0);
        x = with("thing a 1 0;thing b 1 0;set a b earns 9 if week=2;coin 2;weeks 3");
        due("both in the last week: a", x.fetched(0), 2);
        due("both in the last week: b", x.fetched(1), 2);
        x = with("thing a 2 0;thing b 2 0;set a earns 2;set b earns 2;set a b earns 20;coin 2;weeks 2");
        due("a, the least, ahead", x.fetched(0), 0);
        due("b behind", x.fetched(1), 1);
        x = with("thing a 4 0 lost 2;set a earns 9 if week=3;coin 4;weeks 4");
        due("as late as it is in", x.fetched(0), 1);
        x = with("thing a 3 0;thing b 2 0;set b earns 3;coin 3;weeks 1");
        due("not at the end", x.fetched(0), -1);
        due("at the end, of week 0", x.fetched(1), 0);
        x = with("thing a 2 0;set a earns 1 if week>0;coin 2;needs 1 if week=0;weeks 60");
        due("not while it would make one broke", x.fetched(0), -1);
    }

    @Edge(promise = 16, says = "FETCHED by it: the WEEK in which a THING is.", broken = {
        "                        fetchWeek[thing] = week;\n                    }\n                }\n                set", "                        fetchWeek[thing] = week + 1;\n                    }\n                }\n                set",
        "Math.min(book.weeks, MOST_WEEKS) - 1; week >= 0; week--", "Math.min(book.weeks, MOST_WEEKS) - 1; week > 0; week--",
        "                set = ahead;\n", ""})
    static void fetchedBy() {
        OutOfPawn x = with(SHOP);
        due("a", x.fetched(0), 0);
        due("b", x.fetched(1), -1);
        due("c", x.fetched(2), 1);
        x = with("thing h 2 0;set h earns 9 if week=59;weeks 60;coin 2");
        due("in week 59", x.fetched(7), 59);
        x = with("thing h 2 0;set h earns 9;weeks 60;coin 2");
        due("in week 0", x.fetched(7), 0);
    }

    @Edge(promise = 17, says = "HANGS on a THING: BEST less BEST without it (it is GONE from the beginning; if there is no PLAN then, all that BEST is).", broken = {
        "return most - Math.max(0, mostIn(line));", "return most - mostIn(line);",
        "return most - Math.max(0, mostIn(line));", "return Math.max(0, most - Math.max(0, mostIn(line)));",
        "                pass(line, week, 1 << thing, gainsWithout(thing, week));\n            }\n            return most", "                pass(line, week, 1 << thing, gains);\n            }\n            return most",
        "                pass(line, week, 1 << thing, gainsWithout(thing, week));\n            }\n            return most", "                pass(line, week, 0, gainsWithout(thing, week));\n            }\n            return most",
        "                asked |= 1 << number;", "                asked = 1 << number;",
        "return book.isLost(thing, week) || !book.code.asks(IN) ? gains : gainsOneLess;", "return !book.code.asks(IN) ? gains : gainsOneLess;",
        "if (book.code.asks(IN)) {\n                fillGains(gainsOneLess, 1);", "if (book.code.asks(HOME)) {\n                fillGains(gainsOneLess, 1);"})
    static void hangs() {
        due("a", with(SHOP).hangs(0), 17);
        due("b, which is let", with(SHOP).hangs(1), 0);
        due("c", with(SHOP).hangs(2), 3);
        due("no plan then: all", with("thing a 1 0;set a earns 3;needs 2;coin 3;weeks 4").hangs(0), 6);
        due("below 0: it is not in then", with("thing a 9 0;needs 1 if in>0;coin 4;weeks 4").hangs(0), -4);
        due("asked of in, and of others behind it", with("thing a 9 0;needs 1 if in>0 and home=0 and week<9;coin 4;weeks 4").hangs(0), -4);
        due("a lost one is not in any more as it is", with("thing a 9 0 lost 1;thing b 9 0;needs 1 if in=1;coin 4;weeks 2").hangs(0), 1);
        due("the last of 60 weeks", with("thing h 1 0;set h earns 9 if week=59;coin 1;weeks 60").hangs(7), 8);
    }

    @Edge(promise = 18, says = "KEY: that on which most hangs, of several the one with the least LOAN, then the least.", broken = {
        "boolean more = key == NONE || hanging > hangsMost;", "boolean more = key == NONE || hanging >= hangsMost;",
        "boolean more = key == NONE || hanging > hangsMost;", "boolean more = hanging > hangsMost;",
        "more || hanging == hangsMost && book.loan[thing] < book.loan[key]", "more || hanging == hangsMost && book.loan[thing] <= book.loan[key]",
        "more || hanging == hangsMost && book.loan[thing] < book.loan[key]", "more",
        "more || hanging == hangsMost && book.loan[thing] < book.loan[key]", "more || book.loan[thing] < book.loan[key]",
        "more || hanging == hangsMost && book.loan[thing] < book.loan[key]", "more || hanging == hangsMost && book.firstOwed(thing, 1) < book.firstOwed(key, 1)"})
    static void key() {
        due("most", with(SHOP).key(), 0);
        due("most, though of more loan", with("thing a 1 0;thing b 3 0;set b earns 9;coin 3").key(), 1);
        due("most, the last", with("thing a 1 0;thing h 3 0;set h earns 9;coin 3").key(), 7);
        due("the least loan", with("thing a 4 0;thing b 3 0").key(), 1);
        due("the least loan, whatever it runs", with("thing a 4 0;thing b 3 9").key(), 1);
        due("then the least", with("thing c 3 0;thing b 3 0;thing a 4 0").key(), 1);
        due("below 0, too", with("thing a 9 0;thing b 8 0;needs 1 if in=2;coin 4;weeks 2").key(), 1);
        due("below 0, the least of one loan", with("thing b 9 0;thing c 9 0;needs 1 if in=2;coin 4;weeks 2").key(), 1);
        due("below 0, alone", with("thing h 9 0;needs 1 if in=1;coin 4;weeks 2").key(), 7);
    }

    @Edge(promise = 19, says = "WISE of a THING: BEST less BEST if it had never been put in: it is HOME from the beginning, the coin at first is less by its LOAN (none, if that is below 0, or then there is no PLAN).", broken = {
        "start(line, 1 << thing, coin);", "start(line, 0, coin);",
        "int coin = book.coin - book.loan[thing];", "int coin = book.coin;",
        "int coin = book.coin - book.loan[thing];\n            if (coin < 0) {", "int coin = book.coin - book.loan[thing];\n            if (coin <= 0) {",
        "int coin = book.coin - book.loan[thing];\n            if (coin < 0) {", "int coin = Math.max(0, book.coin - book.loan[thing]);\n            if (coin < 0) {",
        "all.most < 0 || kept < 0 ? NO_LOSS : all.most - kept", "all.most < 0 ? NO_LOSS : all.most - Math.max(0, kept)",
        "all.most < 0 || kept < 0 ? NO_LOSS : all.most - kept", "all.most < 0 || kept < 0 ? NO_LOSS : kept - all.most"})
    static void wise() {
        due("the coin was better used", with("thing a 8 0;thing b 8 0;set b earns 9;coin 8;weeks 2").wise(0), 18);
        due("it runs not, and is not lost", with("thing a 8 5 lost 1;set a earns 2;weeks 9;coin 8").wise(0), 0);
        due("nothing is left of the coin", with("thing a 8 0;coin 8").wise(0), 8);
        due("below 0", with("thing a 9 0;coin 8").wise(0), -1000000);
        due("no plan then", with("thing a 8 0;needs 1;weeks 8;coin 8").wise(0), -1000000);
        due("a plan with no coin then", with("thing a 8 0;needs 1;weeks 8;coin 16").wise(0), 8);
        due("one that it earns with", with("thing a 4 0;thing h 4 0;set a h earns 5;weeks 2;coin 8").wise(7), 0);
    }

    @Edge(promise = 20, says = "BORROWED in a WEEK: BEST if one gets what the cousin lends in that WEEK (ahead of FETCHING) and pays it back in his.", broken = {
        "shift(line, book.cousinLends);\n", "",
        "shift(line, -book.cousinLends);\n", "",
        "                if (now == book.cousinWeek) {\n                    shift(line, -book.cousinLends);\n                }\n                pass(line, now, 0, gains);", "                pass(line, now, 0, gains);\n                if (now == book.cousinWeek) {\n                    shift(line, -book.cousinLends);\n                }",
        "System.arraycopy(coins, (week - 1) * SETS, line, 0, SETS);", "System.arraycopy(coins, week * SETS, line, 0, SETS);",
        "                    at[set] = Math.max(NONE, at[set] + coin);", "                    at[set] = Math.max(0, at[set] + coin);"})
    static void borrowed() {
        OutOfPawn x = with(COUSIN);
        int[] told = {13, 9, 5, 3, -2};
        for (int week = 0; week < told.length; week++) {
            due("week " + week, x.borrowed(week), told[week]);
        }
        due("all that is there is paid back", with("cousin 5 till 1;weeks 2").borrowed(0), 0);
        due("paid back ahead of fetching and earning", with("thing a 5 0;set a earns 9 if week=1;cousin 5 till 1;weeks 2").borrowed(0), 0);
        due("had ahead of fetching", with("thing a 5 0;set a earns 9;cousin 5 till 1;weeks 2;coin 4").borrowed(0), 17);
        due("what was earned ahead of it is there once", with("thing a 1 0;set a earns 1;coin 1;cousin 5 till 3;weeks 4").borrowed(1), 4);
        due("a plan only with it", with("thing a 5 0;set a earns 5;needs 2 if week=0;coin 1;cousin 6 till 3;weeks 4").borrowed(0), 14);
        due("not paid back: no plan", with("needs 3 if week=0;cousin 9 till 1;weeks 2").borrowed(0), -2);
    }

    @Edge(promise = 21, says = "WHEN: the WEEK with the most of that (ahead of his), if that is above BEST; of several the first.", broken = {
        "return bestBorrowing(0) > most ? 0 : NONE;", "return bestBorrowing(0) >= most ? 0 : NONE;",
        "return bestBorrowing(0) > most ? 0 : NONE;", "return bestBorrowing(0) > most ? Math.max(0, book.cousinWeek - 1) : NONE;",
        "return bestBorrowing(0) > most ? 0 : NONE;", "return most >= 0 && bestBorrowing(0) > most ? 0 : NONE;"})
    static void when() {
        String[] books = {COUSIN, "thing a 5 0;set a earns 9 if week=2;cousin 5 till 3;weeks 4",
            "thing a 5 0;set a earns 9 if week=3;cousin 5 till 4;weeks 9", "thing a 3 2;set a earns 1;cousin 5 till 7;weeks 8;coin 2",
            "needs 2 if week=2;coin 1;cousin 5 till 4;weeks 5", "thing a 5 0;set a earns 5;needs 2 if week=0;coin 1;cousin 6 till 3;weeks 4",
            "coin 5;cousin 4 till 3;weeks 4", SHOP};
        for (String book : books) {
            OutOfPawn x = with(book);
            int most = x.best(0);
            int when = -2;
            for (int week = 0; week < x.count(1); week++) {
                if (x.borrowed(week) > most) {
                    most = x.borrowed(week);
                    when = week;
                }
            }
            due("as borrowed tells: " + book, x.when(), when);
        }
        due("week 0", with(COUSIN).when(), 0);
        due("of several the first", with(books[1]).when(), 0);
        due("as good as best alone", with("coin 5;cousin 4 till 3;weeks 4").when(), -2);
        due("a plan only so", with(books[5]).when(), 0);
    }

    @Edge(promise = 22, says = "SOLD: BEST if the ticket of a THING is sold in a WEEK (ahead of FETCHING; it is IN till then).", broken = {
        "shift(fork, book.sells[thing]);", "",
        "                pass(line, now, 1 << thing, gains);\n            }\n            return bestSelling", "                pass(line, now, 0, gains);\n            }\n            return bestSelling",
        "pass(fork, now, 1 << thing, gainsWithout(thing, now));", "pass(fork, now, 1 << thing, gains);",
        "pass(fork, now, 1 << thing, gainsWithout(thing, now));", "pass(fork, now, 0, gainsWithout(thing, now));",
        "for (int now = 0; now < week; now++) {", "for (int now = 0; now <= week; now++) {"})
    static void sold() {
        due("what it sells for fetches another", with("thing a 9 0 sells 5;thing b 5 0;set b earns 7;weeks 1").sold(0, 0), 7);
        due("it is in till then, not home", with("thing a 1 0 sells 5;set a earns 9;coin 1;weeks 3").sold(0, 2), 6);
        due("it is gone then", with("thing a 1 0 sells 5;set a earns 9;coin 1;weeks 3").sold(0, 0), 6);
        OutOfPawn x = with("thing a 9 0 sells 5;needs 1 if in=1;coin 4;weeks 4");
        int[] told = {9, 8, 7, 6};
        for (int week = 0; week < 4; week++) {
            due("in is counted till week " + week, x.sold(0, week), told[week]);
        }
        x = with("thing a 9 0 sells 5;needs 1;coin 1;weeks 4");
        due("in time", x.sold(0, 1), 2);
        due("broke ahead of it", x.sold(0, 2), -2);
        due("the last of 60 weeks", with("thing h 9 0 sells 5;coin 1;weeks 60").sold(7, 59), 6);
    }

    @Edge(promise = 23, says = "SELLING: the WEEK with the most of that, if that is above BEST; of several the first.", broken = {
        "if (coin > highest) {\n                    highest", "if (coin >= highest) {\n                    highest",
        "                    highest = coin;\n", "",
        "int highest = most;\n", "int highest = NONE;\n",
        "week < book.weeks && !book.isLost(thing, week); week++", "week < book.weeks && !book.isLost(thing, week + 1); week++",
        "                pass(line, week, 1 << thing, gains);\n            }\n            return when;", "                pass(line, week, 0, gains);\n            }\n            return when;"})
    static void selling() {
        due("the last week", with("thing a 9 0 sells 5;thing b 1 0;set b earns 4 if in=1;coin 1;weeks 6").selling(0), 5);
        due("of several the first", with("thing a 9 0 sells 1;coin 4").selling(0), 0);
        due("of several behind it the first", with("thing a 9 0 sells 5;needs 1 if week=0 and in=0;coin 4;weeks 3").selling(0), 1);
        due("the week ahead of the one in which it is lost", with("thing a 9 0 sells 5 lost 2;thing b 1 0;set b earns 4 if in=1;coin 1;weeks 6").selling(0), 1);
        due("not above", with("thing a 9 0;coin 4").selling(0), -2);
        due("fetched it earns more", with("thing a 1 0 sells 5;set a earns 9;coin 1;weeks 3").selling(0), -2);
        due("a plan only so", with("thing a 9 0 sells 5;needs 1;coin 1;weeks 4").selling(0), 0);
    }
}
