/** The sentences of Promises 1 to 35 themselves: what each call answers at its edges, and what it refuses. */
final class CallEdges {
    private static final String SHOP = "thing a 10 1 worth 30;thing b 4 0 lost 2 sells 3;thing c 5 1;"
        + "set a earns 6;set a c earns 3;coin 14;weeks 4;needs 2";
    private static final String ALL_TOLD = "thing a 7 2 lost 9 lends 3 sells 4 worth 5;thing h 1 0;"
        + "set a earns 6;set h earns 1;needs 2;luck 500;cousin 8 till 3;coin 9;weeks 5";
    private static final String NO_PLAN = "thing a 1 0;needs 1;coin 3;weeks 4";
    private static final String COUSIN = "thing a 10 0;set a earns 4;coin 3;weeks 5;cousin 8 till 4";
    /** Numbers beyond all bounds; some are a THING's when only their last bits are looked at. */
    private static final int[] FAR = {32, 33, 64, 256, -32, -31, Integer.MAX_VALUE, Integer.MIN_VALUE};

    private CallEdges() {
    }

    private static void due(String what, long got, long want) {
        Check.due(what, got, want);
    }

    private static void due(String what, boolean got, boolean want) {
        Check.due(what, got, want);
    }

    private static OutOfPawn with(String book, String... rules) {
        return Check.with(book, rules);
    }

    /** Counts what 0 to 10. */
    private static void counts(String ahead, OutOfPawn x, int... want) {
        for (int what = 0; what < want.length; what++) {
            due(ahead + " count " + what, x.count(what), want[what]);
        }
    }

    // ---- promise 1 ----

    @Edge(promise = 1, says = "No THINGS (12 WEEKS, no coin), no RULES, no ROW.", broken = {
        "PLAIN_WEEKS = 12", "PLAIN_WEEKS = 11",
        "private int ruleCount;", "private int ruleCount = 1;",
        "            coin = 0;\n            luck", "            coin = 1;\n            luck",
        "            things = 0;\n            weeks", "            things = 1;\n            weeks"})
    static void aNewObject() {
        OutOfPawn x = new OutOfPawn();
        counts("new", x, 0, 12, 0, 1000, 0, OutOfPawn.NONE, 0, 0, 0, 0, 0);
        due("no thing 0", x.owed(0, 0), -1);
        due("no rule 0", x.ruled(0, 0), -2);
        due("no act", x.row(1), false);
        due("week 11 is the last", x.then(11, 0), 0);
        due("there is no week 12", x.then(12, 0), -2);
        due("no coin", x.judged(2), 0);
        due("it is not broke", x.judged(1), -1);
    }

    @Edge(promise = 1, says = "`NONE = -1`: None.", broken = {"int NONE = -1;", "int NONE = -9;"})
    static void none() throws ReflectiveOperationException {
        due("NONE", OutOfPawn.class.getField("NONE").getInt(null), -1);
    }

    @Edge(promise = 1, says = "An object is used for at most 512 calls after it has been made;", broken = {
        "public int holds(int seed, int n) {\n        if (!isDrawable(seed, n)) {", "public int holds(int seed, int n) {\n        if (otherWeeks[0]++ > 500 || !isDrawable(seed, n)) {"})
    static void theLastCall() {
        OutOfPawn x = with("thing a 5 0;set a earns 3;coin 5;weeks 2;luck 500;needs 1");
        x.act(0, 0, 0);
        int first = x.holds(7, 100);
        for (int i = 0; i < 505; i++) {
            x.holds(i, 1);
        }
        due("call 512", x.holds(7, 100), first);
    }

    // ---- promises 2 and 3 ----

    @Edge(promise = 2, says = "Twenty bytes come behind the TAPE, of each number the highest first: how many it has;", broken = {
        "int shift = 24; shift >= 0; shift -= 8", "int shift = 0; shift <= 24; shift += 8",
        "(number >>> shift) & 255", "(number >>> shift) & 127",
        "putBytes(d);", "",
        "        putBytes(e);\n        return tapeLength;", "        putBytes(e);\n        return FEED_BYTES;"})
    static void twentyBytesBehind() {
        OutOfPawn x = new OutOfPawn();
        due("onto none", x.feed(0x636f696e, 0x20353b77, 0x65656b73, 0x20337878, 0x78787878), 20);
        due("its first 14", x.end(14), 14);
        due("behind 14", x.feed(0x3b6c7563, 0x6b203720, 0x20202020, 0x20202020, 0x20202020), 34);
        due("coin 5;weeks 3;luck 7", x.book(), 0);
        due("coin", x.count(2), 5);
        due("weeks", x.count(1), 3);
        due("luck", x.count(3), 7);
        due("below 0: highest byte 255", x.feed(-1, -1, -1, -1, -1), 20);
        due("it is a byte that can't stand there", x.book(), -2 - 1);
        x.feed(0xe36f696e, 0x20350000, 0, 0, 0);
        x.end(6);
        due("227 is not the c that 99 is", x.book(), -2 - 1);
    }

    @Edge(promise = 2, says = "NONE, and none comes, if it would have more than 400.", broken = {
        "tapeLength + FEED_BYTES > TAPE_BYTES", "tapeLength + FEED_BYTES >= TAPE_BYTES",
        "tapeLength + FEED_BYTES > TAPE_BYTES", "tapeLength >= TAPE_BYTES",
        "            return NONE;\n        }\n        putBytes(a);", "            putBytes(a);\n            return NONE;\n        }\n        putBytes(a);"})
    static void noMoreThan400() {
        OutOfPawn x = new OutOfPawn();
        for (int i = 1; i < 20; i++) {
            due("feed " + i, x.feed(0, 0, 0, 0, 0), 20 * i);
        }
        due("to 400", x.feed(0, 0, 0, 0, 0), 400);
        due("behind 400", x.feed(0, 0, 0, 0, 0), -1);
        due("still 400", x.count(10), 400);
        x.end(399);
        due("behind 399", x.feed(0, 0, 0, 0, 0), -1);
        due("still 399", x.count(10), 399);
        x.end(381);
        due("to 401", x.feed(0, 0, 0, 0, 0), -1);
        due("still 381", x.count(10), 381);
    }

    @Edge(promise = 3, says = "The TAPE has its first n bytes alone: n;", broken = {
        "tapeLength = n;\n        return n;", "return n;",
        "for (int i = place; i < length && i < text.length; i++) {", "for (int i = place; i < text.length; i++) {",
        "n < 0 || n > tapeLength", "n <= 0 || n > tapeLength",
        "n < 0 || n > tapeLength", "n < 0 || n >= tapeLength"})
    static void firstBytesAlone() {
        OutOfPawn x = new OutOfPawn();
        due("none of none", x.end(0), 0);
        Check.tape(x, "coin 5;weeks 3");
        due("all", x.end(14), 14);
        due("the first 6", x.end(6), 6);
        due("it has 6", x.count(10), 6);
        due("the others are gone", x.end(7), -1);
        due("they are read alone", x.book(), 0);
        due("coin", x.count(2), 5);
        due("weeks", x.count(1), 12);
        Check.tape(x, "coin 5");
        due("none of some", x.end(0), 0);
        due("it is empty", x.count(10), 0);
        due("nothing to read", x.book(), -2 - 1);
        Check.tape(x, "coin 555");
        x.end(6);
        due("a number ends with them", x.book(), 0);
        due("of one digit", x.count(2), 5);
        Check.tape(x, "coin 5;weeks 3");
        x.end(9);
        due("a word ends with them", x.book(), -2 - (1 + 8 * 7));
    }

    @Edge(promise = 3, says = "NONE, and nothing happens, if it has not so many, or n is below 0.", broken = {
        "n < 0 || n > tapeLength", "n > tapeLength",
        "n < 0 || n > tapeLength", "n < 0 || n > tapeLength + 1",
        "n < 0 || n > tapeLength", "n < 0 || n > TAPE_BYTES"})
    static void notSoManyBytes() {
        OutOfPawn x = new OutOfPawn();
        due("1 of none", x.end(1), -1);
        due("-1 of none", x.end(-1), -1);
        due("still none", x.count(10), 0);
        Check.tape(x, "coin 5");
        due("7 of 6", x.end(7), -1);
        due("400 of 6", x.end(400), -1);
        due("most", x.end(Integer.MAX_VALUE), -1);
        due("-1", x.end(-1), -1);
        due("least", x.end(Integer.MIN_VALUE), -1);
        due("still 6", x.count(10), 6);
        due("it can be read still", x.book(), 0);
        due("coin", x.count(2), 5);
    }

    // ---- promises 4 and 5 ----

    @Edge(promise = 4, says = "The TAPE, which is empty then, is the BOOK in place of the one there was (the ROW is empty then): how many THINGS;", broken = {
        "spareBook);\n        tapeLength = 0;", "spareBook);",
        "acts.count = 0;", "",
        "return Integer.bitCount(book.things);", "return book.things;",
        "            things = 0;\n", "",
        "            weeks = PLAIN_WEEKS;\n", "",
        "            coin = 0;\n            luck", "            luck",
        "            luck = THOUSAND;\n", "",
        "            cousinLends = 0;\n", "",
        "            cousinWeek = NONE;\n            sets", "            sets",
        "            sets.count = 0;\n", "",
        "            needs.count = 0;\n", "",
        "                lost[thing] = NONE;\n", "",
        "                lends[thing] = 0;\n", "",
        "                sells[thing] = 0;\n", "",
        "                worth[thing] = 0;\n", "",
        "            pieces = 0;\n", "",
        "            length = 0;\n            asked = 0;", "            asked = 0;",
        "acts.count = 0;\n        plans.ready = false;", "acts.count = 0;"})
    static void aBookInPlaceOfAnother() {
        OutOfPawn x = new OutOfPawn();
        for (int i = 0; i < 8; i++) {
            due("of 60 values and facts", Check.book(x, "needs 1 if 1=1" + " and 1=1".repeat(19)), 0);
            due("its test holds", x.earned(0, 0, 1), 1);
        }
        due("two things", Check.book(x, ALL_TOLD), 2);
        counts("all told", x, 129, 5, 9, 500, 8, 3, 2, 1, 0, 0, 0);
        Check.act(x, 0, 0, 0, 4, 4, 0);
        x.best(0);
        due("no things", Check.book(x, "coin 1"), 0);
        counts("in its place", x, 0, 12, 1, 1000, 0, -1, 0, 0, 0, 0, 0);
        due("its plans", x.best(0), 1);
        due("its thing", Check.book(x, "thing a 1 0"), 1);
        int[] a = {1, 0, -1, 0, 0, 0};
        for (int what = 0; what < a.length; what++) {
            due("a has nothing of the one there was, " + what, x.thing(0, what), a[what]);
        }
        due("no coin", x.count(2), 0);
        due("eight", Check.book(x, "thing h 1 0;thing g 1 0;thing f 1 0;thing e 1 0;thing d 1 0;thing c 1 0;thing b 1 0;thing a 1 0"), 8);
        due("tape empty", x.count(10), 0);
        due("no text on it", x.book(), -2 - 1);
    }

    @Edge(promise = 4, says = "-2 - its FAULT, and the BOOK and ROW stay.", broken = {
        "reader.readBook(tape, tapeLength, spareBook);", "reader.readBook(tape, tapeLength, book);",
        "return LACKING - fault;\n        }\n        book.take", "return NONE - fault;\n        }\n        book.take",
        "return LACKING - fault;\n        }\n        book.take", "return -fault;\n        }\n        book.take",
        "return LACKING - fault;\n        }\n        book.take", "acts.count = 0;\n            return LACKING - fault;\n        }\n        book.take",
        "spareBook);\n        tapeLength = 0;\n        if (fault != 0) {", "spareBook);\n        if (fault != 0) {"})
    static void aBookWithAFault() {
        OutOfPawn x = with(ALL_TOLD);
        Check.act(x, 0, 3, 0, 4, 4, 0);
        int best = x.best(0);
        due("no text", Check.book(x, ""), -3);
        due("fault at its last byte", Check.book(x, "thing b 1 0;set b earns 1;needs 1;luck 1;cousin 1 till 1;coin 1;weeks 1;"), -2 - (1 + 8 * 72));
        due("tape empty", x.count(10), 0);
        due("fault in the middle", Check.book(x, "thing a 3 3 lost 3 lends 1 sells 1 worth 1;coin 10000;weeks 3"), -2 - (1 + 8 * 48 + 1));
        counts("it stays", x, 129, 5, 9, 500, 8, 3, 2, 1, 0, 2, 0);
        int[] a = {7, 2, 9, 3, 4, 5};
        for (int what = 0; what < a.length; what++) {
            due("a stays, " + what, x.thing(0, what), a[what]);
        }
        due("earned stays", x.earned(1, 0, 0), 6);
        due("plans stay", x.best(0), best);
        Check.judged("the acts stay: halved, needs 2 of 5", x, -1, 2, 1, 0, 0);
    }

    @Edge(promise = 5, says = "The TAPE, which is empty then, is a RULE: its number;", broken = {
        "rules[ruleCount]);\n        tapeLength = 0;", "rules[ruleCount]);",
        "return ruleCount - 1;", "return ruleCount;",
        "            count = 0;\n            keep = 0;", "            keep = 0;",
        "            count = 0;\n            keep = 0;", "            count = 0;",
        "            length = 0;\n            asked = 0;", "            asked = 0;"})
    static void aRule() {
        OutOfPawn x = with("thing a 1 0;coin 9");
        for (int i = 0; i < 8; i++) {
            due("a fault at the end of 60 values", Check.rule(x, "like 1" + "+1".repeat(59) + ";") < -2, true);
        }
        for (int i = 0; i < 6; i++) {
            due("after a fault, the same number", Check.rule(x, "keep 99;like 5 if 1=2;like") < -2, true);
            due("rule " + i, Check.rule(x, "like " + (i + 1)), i);
            due("tape empty", x.count(10), 0);
            due("how many", x.count(8), i + 1);
        }
        for (int i = 0; i < 6; i++) {
            due("likes " + i, x.likes(i, 0, 0, 0, 0), i + 1);
            due("keeps nothing", x.ruled(i, 1), 1);
        }
    }

    @Edge(promise = 5, says = "-2 - its FAULT;", broken = {
        "return LACKING - fault;\n        }\n        ruleCount", "return NONE - fault;\n        }\n        ruleCount",
        "int fault = reader.readRule(tape, tapeLength, rules[ruleCount]);", "int fault = reader.readRule(tape, tapeLength, rules[ruleCount++]);",
        "rules[ruleCount]);\n        tapeLength = 0;\n        if (fault != 0) {", "rules[ruleCount]);\n        if (fault != 0) {"})
    static void aRuleWithAFault() {
        OutOfPawn x = with(SHOP, "like 3");
        due("no text", Check.rule(x, ""), -3);
        due("fault", Check.rule(x, "keep 5;keep 5"), -2 - (1 + 8 * 7 + 4));
        due("tape empty", x.count(10), 0);
        due("one rule", x.count(8), 1);
        due("no rule 1", x.ruled(1, 0), -2);
        due("the rule there was", x.likes(0, 0, 0, 0, 0), 3);
        due("the next number", Check.rule(x, "like 4"), 1);
    }

    @Edge(promise = 5, says = "NONE, and nothing happens: there are 6.", broken = {
        "ruleCount >= MOST_RULES", "ruleCount > MOST_RULES",
        "MOST_RULES = 6", "MOST_RULES = 5",
        "MOST_RULES = 6", "MOST_RULES = 7",
        "if (ruleCount >= MOST_RULES) {", "if (ruleCount >= MOST_RULES) {\n            tapeLength = 0;"})
    static void thereAreSix() {
        OutOfPawn x = with(SHOP, "like 1", "like 2", "like 3", "like 4", "like 5", "like 6");
        Check.tape(x, "like 7");
        due("a seventh", x.rule(), -1);
        due("the tape stays", x.count(10), 6);
        due("six", x.count(8), 6);
        due("the sixth stays", x.likes(5, 0, 0, 0, 0), 6);
        due("no seventh", x.likes(6, 0, 0, 0, 0), 0);
        Check.tape(x, "lik");
        due("a seventh with a fault", x.rule(), -1);
        due("the tape stays then, too", x.count(10), 3);
        x.end(0);
        due("a seventh without text", x.rule(), -1);
        Check.book(x, "coin 1");
        due("another book makes no place", Check.rule(x, "like 7"), -1);
    }

    // ---- promises 6 and 7 ----

    @Edge(promise = 6, says = "Of a THING what 0: LOAN, 1: RUNS, 2: the WEEK in which it is lost (NONE: never), 3: lent again for, 4: what its ticket sells for, 5: worth, as the BOOK tells.", broken = {
        "                lost[thing] = NONE;\n", "                lost[thing] = 0;\n",
        "case 0: return book.loan[thing];", "case 0: return life.loan[thing];",
        "case 3: return book.lends[thing];", "case 3: return book.sells[thing];",
        "case 4: return book.sells[thing];", "case 4: return book.worth[thing];",
        "case 1: return book.runs[thing];", "case 1: return life.runs[thing];"})
    static void ofAThing() {
        OutOfPawn x = with("thing a 1 0;thing h 9999 999 lost 60 lends 9998 sells 9997 worth 9996;coin 9999;thing c 4 2 lost 1");
        int[] a = {1, 0, -1, 0, 0, 0};
        int[] c = {4, 2, 1, 0, 0, 0};
        int[] h = {9999, 999, 60, 9998, 9997, 9996};
        Check.act(x, 0, 3, 2, 0, 0, 0, 1, 1, 0);
        for (int judged = 0; judged < 2; judged++) {
            for (int what = 0; what < 6; what++) {
                due("a " + what, x.thing(0, what), a[what]);
                due("c " + what, x.thing(2, what), c[what]);
                due("h " + what, x.thing(7, what), h[what]);
            }
            x.judged(0);
        }
    }

    @Edge(promise = 6, says = "-2 without these.", broken = {
        "return thing >= 0 && thing < THINGS && (things >> thing & 1) != 0;", "return thing >= 0 && thing < THINGS;",
        "return thing >= 0 && thing < THINGS && (things >> thing & 1) != 0;", "return thing >= 0 && (things >> thing & 1) != 0;",
        "return thing >= 0 && thing < THINGS && (things >> thing & 1) != 0;", "return thing < THINGS && (things >> thing & 1) != 0;",
        "            case 5: return book.worth[thing];\n            default: return LACKING;", "            case 5: return book.worth[thing];\n            default: return NONE;",
        "if (!book.has(thing)) {\n            return LACKING;", "if (!book.has(thing)) {\n            return NONE;"})
    static void ofNoThing() {
        OutOfPawn x = with("thing a 1 0;thing h 1 0");
        for (int what = -1; what <= 6; what++) {
            due("-1", x.thing(-1, what), -2);
            due("not told", x.thing(1, what), -2);
            due("8", x.thing(8, what), -2);
            for (int far : FAR) {
                due("far " + far, x.thing(far, what), -2);
            }
        }
        due("what -1", x.thing(0, -1), -2);
        due("what 6", x.thing(0, 6), -2);
        due("what least", x.thing(0, Integer.MIN_VALUE), -2);
        due("without a book", new OutOfPawn().thing(0, 0), -2);
    }

    @Edge(promise = 7, says = "What 0: THINGS as bits, 1: WEEKS, 2: coin at first, 3: luck, 4: what the cousin lends, 5: his WEEK (NONE), 6: sets, 7: needs CLAUSES, 8: RULES, 9: ACTS, 10: bytes of the TAPE.", broken = {
        "case 2: return book.coin;", "case 2: return life.coin;",
        "            cousinWeek = NONE;\n            sets", "            cousinWeek = 0;\n            sets",
        "case 6: return book.sets.count;", "case 6: return book.needs.count;",
        "case 7: return book.needs.count;", "case 7: return book.sets.count + book.needs.count;",
        "case 9: return acts.count;", "case 9: return life.badAct;",
        "case 0: return book.things;", "case 0: return Integer.bitCount(book.things);"})
    static void counted() {
        OutOfPawn x = with("thing h 1 0;thing a 1 0;weeks 60;coin 9999;luck 0;cousin 9999 till 60;"
            + "set a earns 1;set h earns 1;set a h earns 0;needs 1;needs 2", "like 1");
        Check.act(x, 3, 0, 0, 60, 4, 0);
        x.feed(0, 0, 0, 0, 0);
        x.judged(0);
        counts("most", x, 129, 60, 9999, 0, 9999, 60, 3, 2, 1, 2, 20);
        x = with("weeks 1;luck 1000;coin 0;cousin 0 till 1");
        counts("least", x, 0, 1, 0, 1000, 0, 1, 0, 0, 0, 0, 0);
        due("no cousin", with("weeks 1").count(5), -1);
    }

    @Edge(promise = 7, says = "-2 for others.", broken = {
        "            case 10: return tapeLength;\n            default: return LACKING;", "            case 10: return tapeLength;\n            default: return NONE;",
        "case 10: return tapeLength;", "case 10: case 11: return tapeLength;",
        "case 0: return book.things;", "case -1: case 0: return book.things;"})
    static void countedOthers() {
        OutOfPawn x = with(SHOP);
        due("11", x.count(11), -2);
        due("-1", x.count(-1), -2);
        due("most", x.count(Integer.MAX_VALUE), -2);
        due("least", x.count(Integer.MIN_VALUE), -2);
    }

    // ---- promises 8 and 9 ----

    @Edge(promise = 8, says = "OWED in a WEEK (0 to 60) as at first;", broken = {
        "return week >= 0 && week <= MOST_WEEKS;", "return week > 0 && week <= MOST_WEEKS;",
        "return week >= 0 && week <= MOST_WEEKS;", "return week >= 0 && week < MOST_WEEKS;",
        "return loan[thing] + runs[thing] * week;", "return loan[thing] + runs[thing] * Math.min(week, 59);",
        "book.has(thing) && isTellable(week) ? book.firstOwed", "book.has(thing) && week >= 0 && week < book.weeks ? book.firstOwed"})
    static void owedAsAtFirst() {
        OutOfPawn x = with("thing a 9999 999 lost 1;thing b 1 0;weeks 1;coin 9999");
        due("week 0", x.owed(0, 0), 9999);
        due("week 60, lost by then", x.owed(0, 60), 9999 + 999 * 60);
        due("runs nothing, week 60", x.owed(1, 60), 1);
        Check.act(x, 0, 3, 0);
        x.judged(0);
        due("halved, but as at first", x.owed(0, 1), 10998);
    }

    @Edge(promise = 8, says = "NONE without these.", broken = {
        "return week >= 0 && week <= MOST_WEEKS;", "return week >= -1 && week <= MOST_WEEKS;",
        "return week >= 0 && week <= MOST_WEEKS;", "return week >= 0 && week <= MOST_WEEKS + 1;",
        "return book.has(thing) && isTellable(week) ? book.firstOwed(thing, week) : NONE;", "return book.has(thing) && isTellable(week) ? book.firstOwed(thing, week) : LACKING;",
        "return book.has(thing) && isTellable(week) ?", "return thing >= 0 && thing < THINGS && isTellable(week) ?"})
    static void owedWithoutThese() {
        OutOfPawn x = with("thing a 9 1;thing c 9 1");
        due("week -1", x.owed(0, -1), -1);
        due("week 61", x.owed(0, 61), -1);
        due("not told", x.owed(1, 0), -1);
        due("thing -1", x.owed(-1, 0), -1);
        due("thing 8", x.owed(8, 0), -1);
        for (int far : FAR) {
            due("thing " + far, x.owed(far, 0), -1);
        }
        for (int far : new int[] {Integer.MIN_VALUE, Integer.MAX_VALUE}) {
            due("week " + far, x.owed(0, far), -1);
        }
    }

    @Edge(promise = 9, says = "What 0: EARNED, 1: NEED with a set of THINGS (that there are) HOME and all others IN, in a WEEK (0 to 60);", broken = {
        "return book.earnings(scene, week, set, book.things & ~set);\n        }\n        return what", "return book.earnings(scene, week, set, book.things & ~set & ~book.lostBy(week));\n        }\n        return what",
        "return book.earnings(scene, week, set, book.things & ~set);\n        }\n        return what", "return book.earnings(scene, week, set, book.things & set);\n        }\n        return what",
        "what == 1 ? book.needing(scene, week, set, book.things & ~set) : NONE", "what == 1 ? book.needing(scene, week, set, book.things) : NONE",
        "!book.hasAll(set) || !isTellable(week)) {\n            return NONE;\n        }\n        if (what == 0)", "!book.hasAll(set) || week < 0 || week >= book.weeks) {\n            return NONE;\n        }\n        if (what == 0)",
        "!book.hasAll(set) || !isTellable(week)) {\n            return NONE;\n        }\n        if (what == 0)", "set == 0 || !book.hasAll(set) || !isTellable(week)) {\n            return NONE;\n        }\n        if (what == 0)"})
    static void earnedAndNeed() {
        OutOfPawn x = with("thing a 1 0 lost 1;thing h 1 0;set a earns 5;set h earns 7 if in=1;set a h earns 11 if week=60;"
            + "needs 2;needs 3 if in=2;needs 13 if week=60;weeks 1");
        due("none home, earned", x.earned(0, 0, 0), 0);
        due("none home, need", x.earned(0, 0, 1), 5);
        due("a home", x.earned(1, 0, 0), 5);
        due("a is lost but in", x.earned(128, 60, 0), 7);
        due("all home in week 60", x.earned(129, 60, 0), 16);
        due("need in week 60", x.earned(129, 60, 1), 15);
        due("all home in week 59", x.earned(129, 59, 0), 5);
        OutOfPawn many = with("thing a 1 0;thing b 1 0;thing c 1 0;set a earns 5 if in=2;needs 7 if in=2");
        due("two are in", many.earned(1, 0, 0), 5);
        due("two are in, need", many.earned(1, 0, 1), 7);
        due("without a book", new OutOfPawn().earned(0, 60, 0), 0);
        due("need without a book", new OutOfPawn().earned(0, 60, 1), 0);
    }

    @Edge(promise = 9, says = "NONE without these.", broken = {
        "return (set & ~things) == 0;", "return set >= 0;",
        "what == 1 ? book.needing(scene, week, set, book.things & ~set) : NONE", "what != 2 ? book.needing(scene, week, set, book.things & ~set) : NONE",
        "what == 1 ? book.needing(scene, week, set, book.things & ~set) : NONE", "what == 1 ? book.needing(scene, week, set, book.things & ~set) : LACKING",
        "!book.hasAll(set) || !isTellable(week)) {\n            return NONE;\n        }\n        if (what == 0)", "!book.hasAll(set) || week < 0) {\n            return NONE;\n        }\n        if (what == 0)"})
    static void earnedWithoutThese() {
        OutOfPawn x = with("thing a 1 0;thing h 1 0;set a earns 5;needs 1");
        due("a thing that is not", x.earned(3, 0, 0), -1);
        due("256", x.earned(256, 0, 0), -1);
        due("257", x.earned(257, 0, 1), -1);
        due("-1", x.earned(-1, 0, 0), -1);
        due("least", x.earned(Integer.MIN_VALUE, 0, 0), -1);
        due("least and a", x.earned(Integer.MIN_VALUE + 1, 0, 1), -1);
        due("week -1", x.earned(1, -1, 0), -1);
        due("week 61", x.earned(1, 61, 1), -1);
        due("what 2", x.earned(1, 0, 2), -1);
        due("what -1", x.earned(1, 0, -1), -1);
    }

    // ---- promises 10 and 11 ----

    @Edge(promise = 10, says = "An ACT comes behind the ROW: how many there are;", broken = {
        "acts.add(week, sort, thing);\n        return acts.count;", "acts.add(week, sort, thing);\n        return acts.count - 1;",
        "                things[count] = thing;\n", "",
        "                sorts[count] = sort;\n", ""})
    static void anActBehind() {
        OutOfPawn x = with("thing a 1 0 lends 5;thing b 2 0;coin 9;weeks 60");
        due("the first", x.act(0, 0, 1), 1);
        due("the same week", x.act(0, 1, 1), 2);
        due("the last week there may be", x.act(60, 2, 0), 3);
        due("the same again", x.act(60, 2, 0), 4);
        due("they are counted", x.count(9), 4);
        x.row(2);
        due("both are done", x.judged(2), 7);
        due("behind two", x.act(0, 0, 0), 3);
        due("it is done as well", x.judged(2), 6);
    }

    @Edge(promise = 10, says = "NONE: 60, its WEEK (0 to 60) is ahead of the last one's, or something is not as told (a THING of the BOOK; 0 to BORROW).", broken = {
        "MOST_ACTS = 60", "MOST_ACTS = 59",
        "MOST_ACTS = 60", "MOST_ACTS = 61",
        "weeks[count - 1] <= week);", "weeks[count - 1] <= week + 1);",
        "weeks[count - 1] <= week);", "weeks[count - 1] < week);",
        "sort == BORROW ? thing == 0 :", "sort == BORROW ? book.has(thing) :",
        "sort == BORROW ? thing == 0 :", "sort == BORROW ? true :",
        "sort >= FETCH && sort < BORROW && book.has(thing)", "sort < BORROW && book.has(thing)",
        "sort >= FETCH && sort < BORROW && book.has(thing)", "sort >= FETCH && book.has(thing)",
        "sort >= FETCH && sort < BORROW && book.has(thing)", "sort >= FETCH && sort < BORROW && thing >= 0 && thing < THINGS",
        "!told || !isTellable(week) || !acts.canTake(week)", "!told || week < 0 || week >= book.weeks || !acts.canTake(week)",
        "!told || !isTellable(week) || !acts.canTake(week)", "!told || week < 0 || !acts.canTake(week)"})
    static void noSuchAct() {
        OutOfPawn x = with("thing b 2 0;coin 9;weeks 1");
        int[][] wrong = {{0, -1, 1}, {0, 5, 1}, {0, Integer.MIN_VALUE, 1}, {0, 0, 0}, {0, 0, 2}, {0, 0, -1}, {0, 0, 8},
            {0, 1, 33}, {0, 2, 0}, {0, 3, 0}, {0, 4, 1}, {0, 4, -1}, {0, 4, 8}, {-1, 0, 1}, {61, 0, 1}, {61, 4, 0},
            {Integer.MAX_VALUE, 0, 1}, {Integer.MIN_VALUE, 0, 1}};
        for (int[] act : wrong) {
            due("act " + act[0] + " " + act[1] + " " + act[2], x.act(act[0], act[1], act[2]), -1);
        }
        due("none came", x.count(9), 0);
        due("week 60", x.act(60, 4, 0), 1);
        due("a week ahead of it", x.act(59, 4, 0), -1);
        due("far ahead of it", x.act(0, 4, 0), -1);
        due("still one", x.count(9), 1);
        x.row(0);
        due("there is no last one", x.act(0, 0, 1), 1);
        for (int i = 2; i <= 60; i++) {
            due("act " + i, x.act(0, 3, 1), i);
        }
        due("a 61st", x.act(0, 3, 1), -1);
        due("a 61st in a later week", x.act(1, 3, 1), -1);
        due("still 60", x.count(9), 60);
    }

    @Edge(promise = 11, says = "The ROW has its first n ACTS alone: true;", broken = {
        "        acts.count = n;\n", "",
        "n < 0 || n > acts.count", "n <= 0 || n > acts.count",
        "n < 0 || n > acts.count", "n < 0 || n >= acts.count"})
    static void firstActsAlone() {
        OutOfPawn x = with(SHOP);
        due("none of none", x.row(0), true);
        Check.act(x, 0, 0, 0, 1, 0, 2, 3, 0, 1);
        due("all", x.row(3), true);
        due("still 3", x.count(9), 3);
        due("two", x.row(2), true);
        due("it has 2", x.count(9), 2);
        due("these are done", x.judged(3), 5);
        due("the third can't be had again", x.row(3), false);
        due("none", x.row(0), true);
        due("it has none", x.count(9), 0);
        due("nothing is done", x.judged(3), 0);
    }

    @Edge(promise = 11, says = "false, and nothing happens, if it has not so many, or n is below 0.", broken = {
        "n < 0 || n > acts.count", "n > acts.count",
        "n < 0 || n > acts.count", "n < 0 || n > acts.count + 1",
        "n < 0 || n > acts.count", "n < 0 || n > MOST_ACTS"})
    static void notSoManyActs() {
        OutOfPawn x = with(SHOP);
        due("one of none", x.row(1), false);
        due("-1 of none", x.row(-1), false);
        Check.act(x, 0, 0, 0, 1, 0, 2);
        due("three of two", x.row(3), false);
        due("60 of two", x.row(60), false);
        due("most", x.row(Integer.MAX_VALUE), false);
        due("-1", x.row(-1), false);
        due("least", x.row(Integer.MIN_VALUE), false);
        due("still two", x.count(9), 2);
        due("they are done", x.judged(3), 5);
    }

    // ---- promises 12 and 13 ----

    @Edge(promise = 12, says = "JUDGED what 0: the first ACT that can't be (NONE), 1: the WEEK in which one is BROKE (NONE), 2: coin, 3: HOME, 4: GONE (as bits).", broken = {
        "case 0: return life.badAct;", "case 0: return life.badAct + 1;",
        "            badAct = NONE;\n", "            badAct = 0;\n",
        "            brokeWeek = NONE;\n            weeksDone", "            brokeWeek = LACKING;\n            weeksDone",
        "case 3: return life.home;", "case 3: return Integer.bitCount(life.home);",
        "case 4: return life.gone;", "case 4: return book.things & ~life.home;"})
    static void judgedOf() {
        OutOfPawn x = with("thing h 2 0;thing g 3 0 lost 1;thing a 9 0;coin 5;weeks 3;needs 1");
        Check.judged("nothing told", x, -1, -1, 2, 0, 64);
        Check.act(x, 0, 0, 7);
        Check.judged("h", x, -1, -1, 0, 128, 64);
        Check.act(x, 0, 0, 0);
        Check.judged("the second can't be", x, 1, -1, 3, 128, 0);
        x.row(0);
        Check.act(x, 0, 0, 0);
        Check.judged("the first can't be", x, 0, -1, 5, 0, 0);
        x.row(0);
        Check.act(x, 0, 0, 6);
        Check.judged("broke in week 2", x, -1, 2, 0, 64, 0);
        Check.judged("without a book", new OutOfPawn(), -1, -1, 0, 0, 0);
        Check.judged("broke in week 0", with("thing a 1 0;needs 1"), -1, 0, 0, 0, 0);
    }

    @Edge(promise = 12, says = "-2 for others.", broken = {
        "            case 4: return life.gone;\n            default: return LACKING;", "            case 4: return life.gone;\n            default: return NONE;",
        "case 4: return life.gone;", "case 4: case 5: return life.gone;",
        "case 0: return life.badAct;", "case -1: case 0: return life.badAct;"})
    static void judgedOthers() {
        OutOfPawn x = with(SHOP);
        due("5", x.judged(5), -2);
        due("-1", x.judged(-1), -2);
        due("most", x.judged(Integer.MAX_VALUE), -2);
        due("least", x.judged(Integer.MIN_VALUE), -2);
    }

    @Edge(promise = 13, says = "By the ROW at the end of a WEEK what 0: coin, 1: HOME;", broken = {
        "                coinThen[week] = coin;\n", "",
        "                homeThen[week] = home;\n", "",
        "week >= life.weeksDone", "week > life.weeksDone - 2",
        "return life.coinThen[week];", "return life.coin;",
        "what == 1 ? life.homeThen[week]", "what == 1 ? life.home"})
    static void thenAtTheEnd() {
        OutOfPawn x = with("thing a 2 0 lends 1;set a earns 3;coin 5;weeks 60;needs 1");
        due("nothing told, week 0", x.then(0, 0), 4);
        Check.act(x, 1, 0, 0, 2, 1, 0, 59, 0, 0);
        int[][] told = {{0, 4, 0}, {1, 4, 1}, {2, 4, 0}, {3, 3, 0}};
        for (int[] week : told) {
            due("coin at the end of " + week[0], x.then(week[0], 0), week[1]);
            due("home at the end of " + week[0], x.then(week[0], 1), week[2]);
        }
        x.row(1);
        due("the last week", x.then(59, 0), 4 + 2 * 58);
        due("home then", x.then(59, 1), 1);
    }

    @Edge(promise = 13, says = "-2 without these, or if it does not come so far.", broken = {
        "if (week < 0 || week >= life.weeksDone", "if (week < -1 || week >= life.weeksDone",
        "if (week < 0 || week >= life.weeksDone", "if (week < 0 || week > life.weeksDone",
        "if (week < 0 || week >= life.weeksDone", "if (week < 0 || week >= book.weeks",
        "what == 1 ? life.homeThen[week] : LACKING", "what == 1 ? life.homeThen[week] : NONE",
        "            weeksDone = 0;\n", ""})
    static void thenNotSoFar() {
        OutOfPawn x = with(SHOP);
        due("week -1", x.then(-1, 0), -2);
        due("week 4", x.then(4, 0), -2);
        due("week 60", x.then(60, 0), -2);
        due("most", x.then(Integer.MAX_VALUE, 1), -2);
        due("least", x.then(Integer.MIN_VALUE, 1), -2);
        due("what 2", x.then(0, 2), -2);
        due("what -1", x.then(0, -1), -2);
        Check.act(x, 0, 0, 0, 1, 0, 0);
        due("ahead of the act that can't be", x.then(0, 1), 1);
        due("its week", x.then(1, 1), -2);
        due("behind it", x.then(3, 0), -2);
        x.row(1);
        x.row(0);
        Check.act(x, 0, 0, 0, 0, 0, 2);
        due("it can't be in week 0", x.then(0, 0), -2);
        OutOfPawn y = with("coin 3;needs 2;weeks 3");
        due("not broke", y.then(0, 0), 1);
        due("the week in which one is broke", y.then(1, 0), -2);
        due("behind that", y.then(2, 1), -2);
    }

    // ---- promises 14 to 16 ----

    @Edge(promise = 14, says = "SOON; NONE: never.", broken = {
        "                    return week;\n                }\n            }\n            return NONE;", "                    return week;\n                }\n            }\n            return LACKING;",
        "for (int week = 0; week < book.weeks; week++) {\n                if (coinAt", "for (int week = 1; week < book.weeks; week++) {\n                if (coinAt",
        "for (int week = 0; week < book.weeks; week++) {\n                if (coinAt", "for (int week = 0; week < book.weeks - 1; week++) {\n                if (coinAt"})
    static void soonOrNever() {
        due("without a book", new OutOfPawn().soon(), 0);
        due("at once", with("thing a 3 0;coin 3").soon(), 0);
        due("coin one short", with("thing a 3 0;coin 2").soon(), -1);
        due("in the last week", with("thing a 3 0;thing b 1 0;set b earns 1;coin 1;weeks 4").soon(), 3);
        due("a week too few", with("thing a 3 0;thing b 1 0;set b earns 1;coin 1;weeks 3").soon(), -1);
        due("in week 59", with("thing a 60 0;thing b 1 0;set b earns 1;coin 2;weeks 60").soon(), 59);
        due("broke at once", with("needs 1").soon(), -1);
        due("one is lost ahead of that", with("thing a 3 0 lost 1;thing b 1 0;set b earns 2;coin 2").soon(), -1);
    }

    @Edge(promise = 15, says = "What 0: BEST, 1: END, 2: RICHEST, 3: STATES, 4: NEVER, 5: LET.", broken = {
        "case 1: return all.last;", "case 1: return book.things & ~all.last;",
        "case 2: return all.richest();", "case 2: return all.most;",
        "default: return book.things & ~all.last;", "default: return all.last;",
        "return book.things & ~all.everHome;", "return all.everHome;"})
    static void bestOf() {
        OutOfPawn x = with(SHOP);
        int[] shop = {23, 5, 53, 27, 0, 2};
        OutOfPawn y = with("thing h 9 0 worth 9999;thing g 8 0;coin 7;weeks 60");
        int[] poor = {7, 0, 7, 60, 192, 192};
        for (int what = 0; what < 6; what++) {
            due("shop, " + what, x.best(what), shop[what]);
            due("poor, " + what, y.best(what), poor[what]);
            due("without a book, " + what, new OutOfPawn().best(what), what == 3 ? 12 : 0);
        }
    }

    @Edge(promise = 15, says = "-2: there is no PLAN (but 3, 4);", broken = {
        "if (all.most < 0) {\n            return LACKING;\n        }\n        switch", "switch",
        "if (all.most < 0) {\n            return LACKING;\n        }\n        switch", "if (all.most <= 0) {\n            return LACKING;\n        }\n        switch",
        "if (what == 3) {\n            return all.states;", "if (what == 3) {\n            return all.most < 0 ? LACKING : all.states;",
        "if (what == 4) {\n            return book", "if (what == 4) {\n            return all.most < 0 ? LACKING : book"})
    static void bestWithoutPlan() {
        OutOfPawn x = with("thing a 2 0;thing b 5 0;needs 1;coin 3;weeks 4");
        int[] told = {-2, -2, -2, 4, 2, -2};
        OutOfPawn y = with("thing c 2 0;needs 1");
        int[] broke = {-2, -2, -2, 0, 4, -2};
        for (int what = 0; what < 6; what++) {
            due("no plan, " + what, x.best(what), told[what]);
            due("broke at once, " + what, y.best(what), broke[what]);
        }
        due("no coin is a plan", with("thing a 2 0;needs 1;coin 4;weeks 4").best(0), 0);
    }

    @Edge(promise = 15, says = "-3 for others.", broken = {
        "if (what < 0 || what > 5) {\n            return NO_SUCH;", "if (what < 0 || what > 5) {\n            return LACKING;",
        "if (what < 0 || what > 5) {\n            return NO_SUCH;", "if (what > 5) {\n            return NO_SUCH;",
        "if (what < 0 || what > 5) {\n            return NO_SUCH;", "if (what < 0 || what > 6) {\n            return NO_SUCH;",
        "if (what < 0 || what > 5) {\n            return NO_SUCH;", "if (all.most >= 0 && (what < 0 || what > 5)) {\n            return NO_SUCH;"})
    static void bestOthers() {
        for (int what : new int[] {6, -1, Integer.MAX_VALUE, Integer.MIN_VALUE}) {
            due("what " + what, with(SHOP).best(what), -3);
            due("no plan, what " + what, with(NO_PLAN).best(what), -3);
        }
    }

    @Edge(promise = 16, says = "FETCHED by THE PLAN (NONE: it is not);", broken = {
        "                fetchWeek[thing] = NONE;\n            }\n            if (most < 0)", "                fetchWeek[thing] = LACKING;\n            }\n            if (most < 0)",
        "all.most < 0 ? LACKING : all.fetchWeek[thing]", "all.most < 0 ? LACKING : life.fetchWeek[thing]",
        "                fetchWeek[thing] = NONE;\n            }\n            if (most < 0)", "            }\n            if (most < 0)"})
    static void fetchedOrNot() {
        OutOfPawn x = with("thing a 1 0;set a earns 2;thing h 2 0;set h earns 9 if week=59;weeks 60;coin 1;thing c 9 0");
        due("a in week 0", x.fetched(0), 0);
        due("h in week 59", x.fetched(7), 59);
        due("c is not", x.fetched(2), -1);
        Check.book(x, "thing a 5 0;set a earns 2;weeks 3;coin 5");
        due("a earns more than it costs", x.fetched(0), 0);
        Check.book(x, "thing a 5 0;set a earns 1;weeks 3;coin 5");
        due("a earns less: not, though it was by the book there was", x.fetched(0), -1);
    }

    @Edge(promise = 16, says = "-2: there is none;", broken = {
        "all.most < 0 ? LACKING : all.fetchWeek[thing]", "all.fetchWeek[thing]",
        "all.most < 0 ? LACKING : all.fetchWeek[thing]", "all.most <= 0 ? LACKING : all.fetchWeek[thing]",
        "            if (most < 0) {\n                return;", "            if (most <= 0) {\n                return;",
        "all.most < 0 ? LACKING : all.fetchWeek[thing]", "all.most < 0 ? NO_SUCH : all.fetchWeek[thing]"})
    static void fetchedWithoutPlan() {
        due("broke in the last week", with(NO_PLAN).fetched(0), -2);
        due("broke at once", with("thing h 1 0;needs 1").fetched(7), -2);
        OutOfPawn x = with("thing a 1 0;thing b 1 0;set a earns 1;needs 1;coin 1;weeks 3");
        due("no coin at the end is a plan", x.fetched(0), 0);
        due("and the other is not fetched", x.fetched(1), -1);
    }

    @Edge(promise = 16, says = "-3 without it.", broken = {
        "            return NO_SUCH;\n        }\n        Plans all = readyPlans();\n        return all.most", "            return LACKING;\n        }\n        Plans all = readyPlans();\n        return all.most",
        "if (!book.has(thing)) {\n            return NO_SUCH;", "if (thing < 0 || thing >= THINGS) {\n            return NO_SUCH;",
        "            return NO_SUCH;\n        }\n        Plans all = readyPlans();\n        return all.most", "            return readyPlans().most < 0 ? LACKING : NO_SUCH;\n        }\n        Plans all = readyPlans();\n        return all.most"})
    static void fetchedWithoutIt() {
        for (String book : new String[] {SHOP, NO_PLAN}) {
            OutOfPawn x = with(book);
            due("not told", x.fetched(3), -3);
            due("-1", x.fetched(-1), -3);
            due("8", x.fetched(8), -3);
            for (int far : FAR) {
                due("far " + far, x.fetched(far), -3);
            }
        }
        due("without a book", new OutOfPawn().fetched(0), -3);
    }

    // ---- promises 17 to 19 ----

    @Edge(promise = 17, says = "HANGS; -2: there is no PLAN;", broken = {
        "return all.most < 0 ? LACKING : all.hanging(thing);", "return all.hanging(thing);",
        "return all.most < 0 ? LACKING : all.hanging(thing);", "return all.most < 0 ? NONE : all.hanging(thing);",
        "return all.most < 0 ? LACKING : all.hanging(thing);", "return all.most <= 0 ? LACKING : all.hanging(thing);"})
    static void hangsWithoutPlan() {
        due("no plan", with(NO_PLAN).hangs(0), -2);
        due("a plan only without it", with("thing a 9 0;needs 1 if in=1;weeks 1").hangs(0), -2);
        due("a plan with no coin", with("thing a 9 0;needs 1;coin 1;weeks 1").hangs(0), 0);
    }

    @Edge(promise = 17, says = "NONE without it.", broken = {
        "if (!book.has(thing)) {\n            return NONE;\n        }\n        Plans all = readyPlans();\n        return all.most < 0 ? LACKING : all.hanging(thing);", "if (thing < 0 || thing >= THINGS) {\n            return NONE;\n        }\n        Plans all = readyPlans();\n        return all.most < 0 ? LACKING : all.hanging(thing);",
        "if (!book.has(thing)) {\n            return NONE;\n        }\n        Plans all = readyPlans();\n        return all.most < 0 ? LACKING : all.hanging(thing);", "if (!book.has(thing)) {\n            return LACKING;\n        }\n        Plans all = readyPlans();\n        return all.most < 0 ? LACKING : all.hanging(thing);"})
    static void hangsWithoutIt() {
        for (String book : new String[] {SHOP, NO_PLAN}) {
            OutOfPawn x = with(book);
            due("not told", x.hangs(3), -1);
            due("-1", x.hangs(-1), -1);
            due("8", x.hangs(8), -1);
            for (int far : FAR) {
                due("far " + far, x.hangs(far), -1);
            }
        }
        due("without a book", new OutOfPawn().hangs(0), -1);
    }

    @Edge(promise = 18, says = "KEY; -2: there is no PLAN, or no THING.", broken = {
        "return all.most < 0 || book.things == 0 ? LACKING : all.keyThing();", "return all.most < 0 ? LACKING : all.keyThing();",
        "return all.most < 0 || book.things == 0 ? LACKING : all.keyThing();", "return book.things == 0 ? LACKING : all.keyThing();",
        "return all.most < 0 || book.things == 0 ? LACKING : all.keyThing();", "return all.most < 0 || book.things == 0 ? NONE : all.keyThing();",
        "return all.most < 0 || book.things == 0 ? LACKING : all.keyThing();", "return all.most <= 0 || book.things == 0 ? LACKING : all.keyThing();"})
    static void keyOrNone() {
        due("without a book", new OutOfPawn().key(), -2);
        due("no thing", with("coin 5").key(), -2);
        due("no plan", with(NO_PLAN).key(), -2);
        due("no plan, no thing", with("needs 1").key(), -2);
        due("one thing, on which nothing hangs", with("thing h 1 0").key(), 7);
    }

    @Edge(promise = 19, says = "WISE; -1000000: none, or there is no PLAN as it is;", broken = {
        "NO_LOSS = -1000000;", "NO_LOSS = -100000;",
        "return all.most < 0 || kept < 0 ? NO_LOSS : all.most - kept;", "return all.most < 0 ? NO_LOSS : all.most - kept;"})
    static void wiseOrNone() {
        due("coin one short of its loan", with("thing a 9 0;coin 8").wise(0), -1000000);
        due("coin as its loan", with("thing a 8 0;coin 8").wise(0), 8);
        due("no plan as it is", with(NO_PLAN).wise(0), -1000000);
        due("no coin, but a plan both ways", with("thing a 1 0;needs 1 if home=0;coin 1;weeks 1").wise(0), 0);
        due("no plan so", with("thing a 8 0;needs 1;weeks 8;coin 8").wise(0), -1000000);
    }

    @Edge(promise = 19, says = "-2000000 without it.", broken = {
        "NO_SUCH_WISDOM = -2000000;", "NO_SUCH_WISDOM = -1000000;",
        "if (!book.has(thing)) {\n            return NO_SUCH_WISDOM;", "if (thing < 0 || thing >= THINGS) {\n            return NO_SUCH_WISDOM;"})
    static void wiseWithoutIt() {
        for (String book : new String[] {SHOP, NO_PLAN}) {
            OutOfPawn x = with(book);
            due("not told", x.wise(3), -2000000);
            due("-1", x.wise(-1), -2000000);
            due("8", x.wise(8), -2000000);
            for (int far : FAR) {
                due("far " + far, x.wise(far), -2000000);
            }
        }
        due("without a book", new OutOfPawn().wise(0), -2000000);
    }

    // ---- promises 20 to 23 ----

    @Edge(promise = 20, says = "BORROWED; -2: there is none so (no cousin, his WEEK is not one of the BOOK's, or not behind it);", broken = {
        "cousinWeek != NONE && cousinWeek < weeks && week < cousinWeek", "cousinWeek != NONE && cousinWeek <= weeks && week < cousinWeek",
        "cousinWeek != NONE && cousinWeek < weeks && week < cousinWeek", "cousinWeek != NONE && cousinWeek < weeks && week <= cousinWeek",
        "cousinWeek != NONE && cousinWeek < weeks && week < cousinWeek", "cousinWeek < weeks && (cousinWeek == NONE || week < cousinWeek)",
        "return coin < 0 ? LACKING : coin;", "return coin;",
        "return coin < 0 ? LACKING : coin;", "return coin <= 0 ? LACKING : coin;"})
    static void borrowedOrNone() {
        OutOfPawn x = with(COUSIN);
        due("week 0", x.borrowed(0), 13);
        due("the week ahead of his", x.borrowed(3), 3);
        due("his week", x.borrowed(4), -2);
        due("a week behind his", with("coin 3;weeks 5;cousin 8 till 3").borrowed(4), -2);
        due("no cousin", with(SHOP).borrowed(0), -2);
        due("without a book", new OutOfPawn().borrowed(0), -2);
        due("his week is the first that is none", with("coin 4;cousin 2 till 3;weeks 3").borrowed(0), -2);
        due("his week is the last", with("coin 4;cousin 2 till 2;weeks 3").borrowed(0), 4);
        due("his week is far behind", with("coin 4;cousin 2 till 60;weeks 3").borrowed(2), -2);
        due("he lends nothing", with("coin 4;cousin 0 till 2;weeks 3").borrowed(1), 4);
        due("a plan with no coin", with("coin 0;cousin 2 till 2;weeks 3").borrowed(1), 0);
        due("one is broke when it is paid back", with("needs 4 if week=1;coin 3;cousin 4 till 3;weeks 4").borrowed(0), -2);
    }

    @Edge(promise = 20, says = "NONE without a WEEK of the BOOK.", broken = {
        "if (week < 0 || week >= book.weeks) {\n            return NONE;\n        }\n        return orLacking(readyPlans().bestBorrowing", "if (week < 0 || week > book.weeks) {\n            return NONE;\n        }\n        return orLacking(readyPlans().bestBorrowing",
        "if (week < 0 || week >= book.weeks) {\n            return NONE;\n        }\n        return orLacking(readyPlans().bestBorrowing", "if (week >= book.weeks) {\n            return NONE;\n        }\n        return orLacking(readyPlans().bestBorrowing",
        "if (week < 0 || week >= book.weeks) {\n            return NONE;\n        }\n        return orLacking(readyPlans().bestBorrowing", "if (week < 0 || week >= book.weeks) {\n            return LACKING;\n        }\n        return orLacking(readyPlans().bestBorrowing"})
    static void borrowedInNoWeek() {
        for (String book : new String[] {COUSIN, "weeks 5"}) {
            OutOfPawn x = with(book);
            due("week 4", x.borrowed(4), -2);
            due("week 5", x.borrowed(5), -1);
            due("week -1", x.borrowed(-1), -1);
            due("week 60", x.borrowed(60), -1);
            due("most", x.borrowed(Integer.MAX_VALUE), -1);
            due("least", x.borrowed(Integer.MIN_VALUE), -1);
        }
        due("week 59", with("weeks 60;cousin 1 till 59").borrowed(58), 0);
        due("week 60", with("weeks 60;cousin 1 till 60").borrowed(60), -1);
    }

    @Edge(promise = 21, says = "WHEN; -2: never.", broken = {
        "bestBorrowing(0) > most ? 0 : NONE;", "bestBorrowing(0) >= most ? 0 : NONE;",
        "return orLacking(readyPlans().borrowingWeek());", "return readyPlans().borrowingWeek();",
        "bestBorrowing(0) > most ? 0 : NONE;", "bestBorrowing(0) > most + 1 ? 0 : NONE;"})
    static void whenOrNever() {
        due("better by one", with("thing a 5 0;set a earns 6 if week=0;coin 0;cousin 5 till 1;weeks 2").when(), 0);
        due("as good", with("thing a 5 0;set a earns 5 if week=0;coin 0;cousin 5 till 1;weeks 2").when(), -2);
        due("no cousin", with(SHOP).when(), -2);
        due("without a book", new OutOfPawn().when(), -2);
        due("his week is none of the book's", with("thing a 5 0;set a earns 6;cousin 5 till 2;weeks 2").when(), -2);
        due("no plan at all", with("needs 9;cousin 5 till 1;weeks 2").when(), -2);
    }

    @Edge(promise = 22, says = "SOLD; -2: there is none so (it is GONE by then);", broken = {
        "if (book.isLost(thing, week)) {\n                return NONE;", "if (book.isLost(thing, week - 1)) {\n                return NONE;",
        "if (book.isLost(thing, week)) {\n                return NONE;", "if (book.isLost(thing, week + 1)) {\n                return NONE;",
        "return orLacking(readyPlans().bestSelling(thing, week));", "return readyPlans().bestSelling(thing, week);"})
    static void soldOrNone() {
        OutOfPawn x = with(SHOP);
        due("the week ahead of the one in which it is lost", x.sold(1, 1), 26);
        due("the week in which it is lost", x.sold(1, 2), -2);
        due("behind that", x.sold(1, 3), -2);
        due("no plan so", with("thing a 1 0;set a earns 3;needs 2;coin 3;weeks 4").sold(0, 0), -2);
        due("it sells for nothing", with("thing a 1 0;coin 3").sold(0, 0), 3);
        due("a plan with no coin", with("thing a 1 0").sold(0, 0), 0);
    }

    @Edge(promise = 22, says = "NONE without these (a WEEK of the BOOK).", broken = {
        "if (!book.has(thing) || week < 0 || week >= book.weeks) {\n            return NONE;", "if (!book.has(thing) || week < 0 || week > book.weeks) {\n            return NONE;",
        "if (!book.has(thing) || week < 0 || week >= book.weeks) {\n            return NONE;", "if (!book.has(thing) || week < -1 || week >= book.weeks) {\n            return NONE;",
        "if (!book.has(thing) || week < 0 || week >= book.weeks) {\n            return NONE;", "if (thing < 0 || thing >= THINGS || week < 0 || week >= book.weeks) {\n            return NONE;",
        "if (!book.has(thing) || week < 0 || week >= book.weeks) {\n            return NONE;", "if (!book.has(thing) || week < 0 || week >= book.weeks) {\n            return LACKING;"})
    static void soldWithoutThese() {
        OutOfPawn x = with(SHOP);
        due("week 3", x.sold(0, 3), 6);
        due("week 4", x.sold(0, 4), -1);
        due("lost, week 4", x.sold(1, 4), -1);
        due("week -1", x.sold(0, -1), -1);
        due("most", x.sold(0, Integer.MAX_VALUE), -1);
        due("least", x.sold(0, Integer.MIN_VALUE), -1);
        due("not told", x.sold(3, 0), -1);
        due("-1", x.sold(-1, 0), -1);
        due("8", x.sold(8, 0), -1);
        for (int far : FAR) {
            due("far " + far, x.sold(far, 0), -1);
        }
        due("without a book", new OutOfPawn().sold(0, 0), -1);
    }

    @Edge(promise = 23, says = "SELLING; -2: never;", broken = {
        "if (coin > highest) {\n                    highest = coin;", "if (coin >= highest) {\n                    highest = coin;",
        "return orLacking(readyPlans().sellingWeek(thing));", "return readyPlans().sellingWeek(thing);",
        "int highest = most;\n", "int highest = most + 1;\n"})
    static void sellingOrNever() {
        due("better by one", with("thing a 5 0 sells 1;coin 4").selling(0), 0);
        due("as good", with("thing a 5 0 sells 0;coin 4").selling(0), -2);
        due("worse", with("thing a 5 0 sells 1;set a earns 1;coin 5").selling(0), -2);
        due("no plan at all", with("thing a 5 0 sells 1;needs 2").selling(0), -2);
    }

    @Edge(promise = 23, says = "NONE without it.", broken = {
        "if (!book.has(thing)) {\n            return NONE;\n        }\n        return orLacking(readyPlans().sellingWeek", "if (thing < 0 || thing >= THINGS) {\n            return NONE;\n        }\n        return orLacking(readyPlans().sellingWeek",
        "if (!book.has(thing)) {\n            return NONE;\n        }\n        return orLacking(readyPlans().sellingWeek", "if (!book.has(thing)) {\n            return LACKING;\n        }\n        return orLacking(readyPlans().sellingWeek"})
    static void sellingWithoutIt() {
        for (String book : new String[] {SHOP, NO_PLAN}) {
            OutOfPawn x = with(book);
            due("not told", x.selling(3), -1);
            due("-1", x.selling(-1), -1);
            due("8", x.selling(8), -1);
            for (int far : FAR) {
                due("far " + far, x.selling(far), -1);
            }
        }
        due("without a book", new OutOfPawn().selling(0), -1);
    }

    // ---- promises 24 to 27 ----

    @Edge(promise = 24, says = "Of a THING by a RULE at the beginning of a WEEK (of the BOOK), with a set HOME, so much coin (0 to 99999), all others IN, OWED as at first: what it likes it (64 bits);", broken = {
        "MOST_COIN = 99999;", "MOST_COIN = 99998;",
        "week >= book.weeks || coin < 0 || coin > MOST_COIN", "week >= book.weeks || coin <= 0 || coin > MOST_COIN",
        "        life.begin();\n        life.home = set;", "        life.home = set;",
        "        life.home = set;\n", "",
        "        life.coin = coin;\n", "",
        "return life.liking(rules[rule], thing, week);", "return (int) life.liking(rules[rule], thing, week);",
        "return life.liking(rules[rule], thing, week);", "life.gone = book.lostBy(week);\n        return life.liking(rules[rule], thing, week);",
        "!told || week < 0 || week >= book.weeks ||", "!told || week < 0 || week >= book.weeks - 1 ||"})
    static void likesIt() {
        OutOfPawn x = with("thing a 10 2 lost 1;thing b 4 0;thing h 5 1;weeks 60;coin 7",
            "like coin", "like home*10+in", "like owed", "like 99999*99999", "like 0-1", "like week+1");
        due("coin 0", x.likes(0, 0, 0, 0, 0), 0);
        due("coin 1", x.likes(0, 0, 0, 0, 1), 1);
        due("coin 99999", x.likes(0, 0, 0, 0, 99999), 99999);
        due("none home", x.likes(1, 0, 0, 0, 0), 3);
        due("all others home", x.likes(1, 0, 0, 130, 0), 21);
        due("a is lost, but in", x.likes(1, 1, 59, 0, 0), 3);
        due("owed in week 0", x.likes(2, 0, 0, 0, 0), 10);
        due("owed in week 59, lost by then", x.likes(2, 0, 59, 0, 0), 128);
        Check.act(x, 0, 3, 0);
        x.judged(0);
        due("owed as at first, whatever was judged", x.likes(2, 0, 2, 0, 0), 14);
        due("64 bits", x.likes(3, 0, 0, 0, 0), 9999800001L);
        due("below 0", x.likes(4, 0, 0, 0, 0), -1);
        due("the last week", x.likes(5, 0, 59, 0, 0), 60);
    }

    @Edge(promise = 24, says = "0 also without these (a THING of the set, too).", broken = {
        "if ((set >> thing & 1) != 0) {\n            return 0L;", "if (set == 0 && thing < 0) {\n            return 0L;",
        "boolean told = isRule(rule) && book.has(thing) && book.hasAll(set);", "boolean told = isRule(rule) && book.has(thing);",
        "boolean told = isRule(rule) && book.has(thing) && book.hasAll(set);", "boolean told = isRule(rule) && thing >= 0 && thing < THINGS && book.hasAll(set);",
        "boolean told = isRule(rule) && book.has(thing) && book.hasAll(set);", "boolean told = rule >= 0 && rule < MOST_RULES && book.has(thing) && book.hasAll(set);",
        "return rule >= 0 && rule < ruleCount && rule < MOST_RULES;", "return rule < ruleCount && rule < MOST_RULES;",
        "!told || week < 0 || week >= book.weeks ||", "!told || week < 0 || week > book.weeks ||",
        "!told || week < 0 || week >= book.weeks ||", "!told || week >= book.weeks ||",
        "coin < 0 || coin > MOST_COIN", "coin > MOST_COIN",
        "MOST_COIN = 99999;", "MOST_COIN = 100000;"})
    static void likesWithoutThese() {
        OutOfPawn x = with("thing a 10 2;thing h 5 1;weeks 3", "like 7");
        due("a rule with a fault", Check.rule(x, "like 9;lik") < -2, true);
        due("as told", x.likes(0, 0, 2, 128, 99999), 7);
        due("a thing of the set", x.likes(0, 0, 0, 1, 0), 0);
        due("of the whole set", x.likes(0, 7, 0, 129, 0), 0);
        due("rule 1", x.likes(1, 0, 0, 0, 0), 0);
        due("rule 6", x.likes(6, 0, 0, 0, 0), 0);
        due("rule -1", x.likes(-1, 0, 0, 0, 0), 0);
        due("thing 1", x.likes(0, 1, 0, 0, 0), 0);
        due("thing 8", x.likes(0, 8, 0, 0, 0), 0);
        due("thing -1", x.likes(0, -1, 0, 0, 0), 0);
        due("thing 32", x.likes(0, 32, 0, 0, 0), 0);
        due("a set with no such thing", x.likes(0, 0, 0, 2, 0), 0);
        due("set 256", x.likes(0, 0, 0, 256, 0), 0);
        due("set below 0", x.likes(0, 0, 0, -2, 0), 0);
        due("week 3", x.likes(0, 0, 3, 0, 0), 0);
        due("week -1", x.likes(0, 0, -1, 0, 0), 0);
        due("coin 100000", x.likes(0, 0, 0, 0, 100000), 0);
        due("coin -1", x.likes(0, 0, 0, 0, -1), 0);
        due("least", x.likes(Integer.MIN_VALUE, Integer.MIN_VALUE, Integer.MIN_VALUE, Integer.MIN_VALUE, Integer.MIN_VALUE), 0);
        due("without a rule", new OutOfPawn().likes(0, 0, 0, 0, 0), 0);
    }

    @Edge(promise = 25, says = "RULED what 0: coin, 1: HOME, 2: the WEEK in which one is BROKE (NONE), 3: LOSES (-1000000: none).", broken = {
        "case 1: return life.home;\n            case 2", "case 1: return life.gone;\n            case 2",
        "case 2: return life.brokeWeek;", "case 2: return life.weeksDone;",
        "most < 0 ? NO_LOSS : most - life.coin", "most < 0 ? LACKING : most - life.coin",
        "most < 0 ? NO_LOSS : most - life.coin", "most < 0 ? NO_LOSS : life.coin - most"})
    static void ruledOf() {
        String book = "thing a 10 0 lost 1;thing h 5 0;set h earns 1;coin 5;weeks 3;needs 1";
        OutOfPawn x = with(book, "like adds", "like 0", "like 1 if owed=5 and week=0");
        int[][] told = {{0, 128, -1, 2}, {2, 0, -1, 0}, {0, 128, -1, 2}};
        for (int rule = 0; rule < 3; rule++) {
            for (int what = 0; what < 4; what++) {
                due("rule " + rule + " what " + what, x.ruled(rule, what), told[rule][what]);
            }
        }
        OutOfPawn y = with("thing h 5 0;set h earns 1;coin 5;weeks 3;needs 2;thing a 1 0", "like owed", "like 0");
        int[][] broke = {{1, 128, 0, -1000000}, {1, 0, 2, -1000000}};
        for (int rule = 0; rule < 2; rule++) {
            for (int what = 0; what < 4; what++) {
                due("broke by rule " + rule + " what " + what, y.ruled(rule, what), broke[rule][what]);
            }
        }
    }

    @Edge(promise = 25, says = "-2 without these.", broken = {
        "if (!isRule(rule) || what < 0 || what > 3) {\n            return LACKING;", "if (!isRule(rule) || what < 0 || what > 4) {\n            return LACKING;",
        "if (!isRule(rule) || what < 0 || what > 3) {\n            return LACKING;", "if (!isRule(rule) || what > 3) {\n            return LACKING;",
        "if (!isRule(rule) || what < 0 || what > 3) {\n            return LACKING;", "if (!isRule(rule) || what < 0 || what > 3) {\n            return NONE;",
        "return rule >= 0 && rule < ruleCount && rule < MOST_RULES;", "return rule >= 0 && rule <= ruleCount && rule < MOST_RULES;"})
    static void ruledWithoutThese() {
        OutOfPawn x = with(SHOP, "like 1");
        for (int what = -1; what <= 4; what++) {
            due("rule 1 what " + what, x.ruled(1, what), -2);
            due("rule -1 what " + what, x.ruled(-1, what), -2);
            due("rule 6 what " + what, x.ruled(6, what), -2);
        }
        due("what 4", x.ruled(0, 4), -2);
        due("what -1", x.ruled(0, -1), -2);
        due("least", x.ruled(Integer.MIN_VALUE, 0), -2);
        due("most", x.ruled(Integer.MAX_VALUE, 0), -2);
        due("what most", x.ruled(0, Integer.MAX_VALUE), -2);
    }

    @Edge(promise = 26, says = "FINEST RULE; -2: none.", broken = {
        "int finest = LACKING;", "int finest = NONE;",
        "int finest = LACKING;\n        int most = NONE;", "int finest = LACKING;\n        int most = 0;"})
    static void finestOrNone() {
        due("no rule", with(SHOP).finest(), -2);
        due("without a book", new OutOfPawn().finest(), -2);
        due("all broke", with("needs 1", "like 1", "keep 1").finest(), -2);
        due("one with no coin at the end", with("needs 1;coin 1;weeks 1", "keep 3").finest(), 0);
        due("the last of six", with("thing a 5 0;set a earns 9;coin 5", "like 0", "like 0", "keep 3", "like 1;keep 1", "keep 0", "like 1").finest(), 5);
    }

    @Edge(promise = 27, says = "PARTS (unlike); NONE without these.", broken = {
        "!isRule(one) || !isRule(other) || one == other", "!isRule(one) || !isRule(other)",
        "!isRule(one) || !isRule(other) || one == other", "!isRule(one) || one == other",
        "!isRule(one) || !isRule(other) || one == other", "!isRule(other) || one == other",
        "one == other) {\n            return NONE;", "one == other) {\n            return LACKING;"})
    static void partsUnlike() {
        OutOfPawn x = with("thing a 1 0;coin 1", "like 1", "like 0", "like 1");
        due("one thing", x.parts(0, 1), 1);
        due("two numbers, the same rule", x.parts(0, 2), 0);
        due("itself", x.parts(1, 1), -1);
        due("rule 3", x.parts(0, 3), -1);
        due("of rule 3", x.parts(3, 0), -1);
        due("rule -1", x.parts(0, -1), -1);
        due("of rule -1", x.parts(-1, 0), -1);
        due("most", x.parts(Integer.MAX_VALUE, 0), -1);
        due("least", x.parts(0, Integer.MIN_VALUE), -1);
        due("no rules", with(SHOP).parts(0, 1), -1);
    }

    // ---- promises 28 to 33 ----

    @Edge(promise = 28, says = "HOLDS (seed 0 to 2147483647); NONE without these.", broken = {
        "return seed >= 0 && n >= 1 && n <= MOST_TIMES;", "return seed > 0 && n >= 1 && n <= MOST_TIMES;",
        "return seed >= 0 && n >= 1 && n <= MOST_TIMES;", "return n >= 1 && n <= MOST_TIMES;",
        "return seed >= 0 && n >= 1 && n <= MOST_TIMES;", "return seed >= 0 && seed < 2147483647 && n >= 1 && n <= MOST_TIMES;",
        "return seed >= 0 && n >= 1 && n <= MOST_TIMES;", "return seed >= 0 && n >= 0 && n <= MOST_TIMES;",
        "return seed >= 0 && n >= 1 && n <= MOST_TIMES;", "return seed >= 0 && n > 1 && n <= MOST_TIMES;",
        "MOST_TIMES = 100;", "MOST_TIMES = 99;",
        "MOST_TIMES = 100;", "MOST_TIMES = 101;"})
    static void holdsOrNone() {
        OutOfPawn x = new OutOfPawn();
        due("seed 0, once", x.holds(0, 1), 1);
        due("seed 0, 100 times", x.holds(0, 100), 100);
        due("the most seed", x.holds(2147483647, 100), 100);
        due("seed -1", x.holds(-1, 1), -1);
        due("seed least", x.holds(Integer.MIN_VALUE, 1), -1);
        due("no time", x.holds(0, 0), -1);
        due("-1 times", x.holds(0, -1), -1);
        due("101 times", x.holds(0, 101), -1);
        due("most times", x.holds(0, Integer.MAX_VALUE), -1);
        due("never so", with("needs 1").holds(0, 100), 0);
    }

    @Edge(promise = 29, says = "GOES; NONE without these.", broken = {
        "if (!isRule(rule) || !isDrawable(seed, n)) {", "if (!isRule(rule) || n < 1 || n > MOST_TIMES) {",
        "if (!isRule(rule) || !isDrawable(seed, n)) {", "if (!isRule(rule) || seed < 0 || n > MOST_TIMES) {",
        "if (!isRule(rule) || !isDrawable(seed, n)) {", "if (!isRule(rule) || seed < 0 || n < 1) {",
        "if (!isRule(rule) || !isDrawable(seed, n)) {", "if (rule < 0 || rule >= MOST_RULES || !isDrawable(seed, n)) {"})
    static void goesOrNone() {
        OutOfPawn x = with("thing a 1 0;coin 1", "like 1", "like 0");
        due("once", x.goes(0, 0, 1), 1);
        due("100 times", x.goes(0, 2147483647, 100), 100);
        due("never", x.goes(1, 0, 100), 0);
        due("rule 2", x.goes(2, 0, 1), -1);
        due("rule -1", x.goes(-1, 0, 1), -1);
        due("rule 6", x.goes(6, 0, 1), -1);
        due("seed -1", x.goes(0, -1, 1), -1);
        due("seed least", x.goes(0, Integer.MIN_VALUE, 1), -1);
        due("no time", x.goes(0, 0, 0), -1);
        due("-1 times", x.goes(0, 0, -1), -1);
        due("101 times", x.goes(0, 0, 101), -1);
    }

    @Edge(promise = 30, says = "SURELY; NONE for more than 10 WEEKS.", broken = {
        "SURE_WEEKS = 10;", "SURE_WEEKS = 9;",
        "SURE_WEEKS = 10;", "SURE_WEEKS = 11;",
        "if (book.weeks > SURE_WEEKS) {\n            return NONE;", "if (book.weeks > SURE_WEEKS) {\n            return LACKING;"})
    static void surelyOrNone() {
        due("11 weeks", with("weeks 11").surely(), -1);
        due("10 weeks", with("weeks 10").surely(), 1000000000);
        due("1 week", with("weeks 1").surely(), 1000000000);
        due("60 weeks", with("weeks 60").surely(), -1);
        due("12 weeks, without a book", new OutOfPawn().surely(), -1);
    }

    @Edge(promise = 31, says = "MOST; NONE without these (no so many THINGS, too; WEEK 0 to 60).", broken = {
        "!isTellable(week) || n < 0 || n > Integer.bitCount(book.things)", "!isTellable(week) || n <= 0 || n > Integer.bitCount(book.things)",
        "!isTellable(week) || n < 0 || n > Integer.bitCount(book.things)", "!isTellable(week) || n < 0 || n >= Integer.bitCount(book.things)",
        "!isTellable(week) || n < 0 || n > Integer.bitCount(book.things)", "week < 0 || n < 0 || n > Integer.bitCount(book.things)",
        "!isTellable(week) || n < 0 || n > Integer.bitCount(book.things)", "week > MOST_WEEKS || n < 0 || n > Integer.bitCount(book.things)",
        "!isTellable(week) || n < 0 || n > Integer.bitCount(book.things)", "week >= book.weeks || week < 0 || n < 0 || n > Integer.bitCount(book.things)",
        "n > Integer.bitCount(book.things)) {\n            return NONE;", "n > Integer.bitCount(book.things)) {\n            return LACKING;"})
    static void mostOrNone() {
        OutOfPawn x = with("thing a 1 0;thing b 1 0;set b earns 1 if week=60;weeks 1");
        due("none of two", x.most(0, 0), 0);
        due("two of two", x.most(60, 2), 3);
        due("one, week 60", x.most(60, 1), 2);
        due("three of two", x.most(0, 3), -1);
        due("-1", x.most(0, -1), -1);
        due("9", x.most(0, 9), -1);
        due("most", x.most(0, Integer.MAX_VALUE), -1);
        due("least", x.most(0, Integer.MIN_VALUE), -1);
        due("week -1", x.most(-1, 0), -1);
        due("week 61", x.most(61, 0), -1);
        due("none of none", new OutOfPawn().most(60, 0), 0);
        due("one of none", new OutOfPawn().most(0, 1), -1);
        due("eight", with("thing a 1 0;thing b 1 0;thing c 1 0;thing d 1 0;thing e 1 0;thing f 1 0;thing g 1 0;thing h 1 0").most(0, 8), 255);
    }

    @Edge(promise = 32, says = "NEEDED; -2: none; NONE without these (WEEK 0 to 60).", broken = {
        "(in & book.lostBy(week)) != 0) {\n            return LACKING;", "(in & book.lostBy(week)) != 0) {\n            return NONE;",
        "public int needed(int set, int week) {\n        if (!book.hasAll(set) || !isTellable(week)) {", "public int needed(int set, int week) {\n        if (!book.hasAll(set) || week < 0) {",
        "public int needed(int set, int week) {\n        if (!book.hasAll(set) || !isTellable(week)) {", "public int needed(int set, int week) {\n        if (!book.hasAll(set) || week > MOST_WEEKS) {",
        "public int needed(int set, int week) {\n        if (!book.hasAll(set) || !isTellable(week)) {", "public int needed(int set, int week) {\n        if (set < 0 || set > 255 || !isTellable(week)) {",
        "public int needed(int set, int week) {\n        if (!book.hasAll(set) || !isTellable(week)) {", "public int needed(int set, int week) {\n        if (!book.hasAll(set) || week < 0 || week >= book.weeks) {"})
    static void neededOrNone() {
        OutOfPawn x = with("thing a 9 1 lost 60;thing b 4 0;weeks 1");
        due("all", x.needed(0, 0), 13);
        due("week 59", x.needed(0, 59), 72);
        due("week 60, a is lost", x.needed(0, 60), -2);
        due("week 60, a is home", x.needed(1, 60), 4);
        due("all home", x.needed(3, 60), 0);
        due("week 61", x.needed(0, 61), -1);
        due("week -1", x.needed(0, -1), -1);
        due("no such set", x.needed(4, 0), -1);
        due("a and no such", x.needed(5, 60), -1);
        due("256", x.needed(256, 0), -1);
        due("-1", x.needed(-1, 0), -1);
        due("without a book", new OutOfPawn().needed(0, 60), 0);
    }

    @Edge(promise = 33, says = "PAYS of a THING, with a set HOME of which it is one (WEEK 0 to 60; 1 at least);", broken = {
        "for (int weeks = 1; weeks <= PAYING_WEEKS; weeks++) {\n            int now = week + weeks - 1;", "for (int weeks = 0; weeks < PAYING_WEEKS; weeks++) {\n            int now = week + weeks;",
        "!book.hasAll(set) || !isTellable(week) || (set >> thing & 1) == 0", "!book.hasAll(set) || week < 0 || week >= book.weeks || (set >> thing & 1) == 0",
        "!book.hasAll(set) || !isTellable(week) || (set >> thing & 1) == 0", "!book.hasAll(set) || week < 0 || week >= MOST_WEEKS || (set >> thing & 1) == 0"})
    static void paysOfASet() {
        OutOfPawn x = with("thing a 1 1;thing h 3 0;set a earns 9;set h earns 1;weeks 1");
        due("at once", x.pays(0, 1, 0), 1);
        due("week 60", x.pays(0, 1, 60), 7);
        due("of all", x.pays(7, 129, 60), 3);
    }

    @Edge(promise = 33, says = "-2: none; NONE without these, or if the THING is not one of the set.", broken = {
        "                return weeks;\n            }\n        }\n        return LACKING;", "                return weeks;\n            }\n        }\n        return NONE;",
        "!book.hasAll(set) || !isTellable(week) || (set >> thing & 1) == 0", "!book.hasAll(set) || !isTellable(week)",
        "!book.hasAll(set) || !isTellable(week) || (set >> thing & 1) == 0", "!isTellable(week) || (set >> thing & 1) == 0",
        "!book.hasAll(set) || !isTellable(week) || (set >> thing & 1) == 0", "!book.hasAll(set) || week < 0 || (set >> thing & 1) == 0",
        "!book.hasAll(set) || !isTellable(week) || (set >> thing & 1) == 0", "!book.hasAll(set) || week > MOST_WEEKS || (set >> thing & 1) == 0",
        "if (!book.has(thing) || !book.hasAll(set) || !isTellable", "if (!book.hasAll(set) || !isTellable"})
    static void paysOrNone() {
        OutOfPawn x = with("thing a 1 1;thing h 3 0;set a earns 9");
        due("it earns nothing", x.pays(7, 128, 0), -2);
        due("not one of the set", x.pays(0, 128, 0), -1);
        due("of no set", x.pays(0, 0, 0), -1);
        due("a set with no such thing", x.pays(0, 3, 0), -1);
        due("set 257", x.pays(0, 257, 0), -1);
        due("set -1", x.pays(0, -1, 0), -1);
        due("not told", x.pays(1, 2, 0), -1);
        due("thing -1", x.pays(-1, 1, 0), -1);
        due("thing 8", x.pays(8, 256, 0), -1);
        due("thing 32", x.pays(32, 1, 0), -1);
        due("week -1", x.pays(0, 1, -1), -1);
        due("week 61", x.pays(0, 1, 61), -1);
        due("without a book", new OutOfPawn().pays(0, 0, 0), -1);
    }

    // ---- promises 34 and 35 ----

    @Edge(promise = 34, says = "An IMAGE is made: how many ACTS;", broken = {
        "imageMade[k] = true;\n        return acts.count;", "imageMade[k] = true;\n        return k;",
        "        imageRows[k].take(acts);\n", "",
        "        imageMade[k] = true;\n", ""})
    static void anImage() {
        OutOfPawn x = with(SHOP);
        due("no act", x.image(0), 0);
        for (int i = 1; i <= 60; i++) {
            x.act(0, 3, 0);
        }
        due("60 acts", x.image(3), 60);
        due("the row stays", x.count(9), 60);
        x.row(1);
        due("again in its place", x.image(3), 1);
        x.row(0);
        due("as made last", x.back(3), 1);
        due("the other", x.back(0), 0);
    }

    @Edge(promise = 34, says = "NONE for another k (it is made also where nothing was told yet).", broken = {
        "if (k < 0 || k >= MOST_IMAGES) {\n            return NONE;", "if (k < 0 || k > MOST_IMAGES) {\n            return NONE;",
        "if (k < 0 || k >= MOST_IMAGES) {\n            return NONE;", "if (k >= MOST_IMAGES) {\n            return NONE;",
        "if (k < 0 || k >= MOST_IMAGES) {\n            return NONE;", "if (k < 0 || k >= MOST_IMAGES || book.things == 0) {\n            return NONE;",
        "MOST_IMAGES = 4;", "MOST_IMAGES = 3;",
        "MOST_IMAGES = 4;", "MOST_IMAGES = 5;"})
    static void anotherImage() {
        OutOfPawn x = new OutOfPawn();
        for (int k = 0; k < 4; k++) {
            due("where nothing was told, " + k, x.image(k), 0);
        }
        due("4", x.image(4), -1);
        due("-1", x.image(-1), -1);
        due("most", x.image(Integer.MAX_VALUE), -1);
        due("least", x.image(Integer.MIN_VALUE), -1);
        Check.book(x, SHOP);
        due("back to nothing", x.back(3), 0);
        counts("nothing told", x, 0, 12, 0, 1000, 0, -1, 0, 0, 0, 0, 0);
    }

    @Edge(promise = 35, says = "It is gone back to an IMAGE: how many ACTS;", broken = {
        "        acts.take(imageRows[k]);\n        plans.ready = false;\n        return acts.count;", "        acts.take(imageRows[k]);\n        plans.ready = false;\n        return k;",
        "        acts.take(imageRows[k]);\n        plans.ready = false;", "        acts.take(imageRows[k]);",
        "        acts.take(imageRows[k]);\n", "",
        "        book.take(imageBooks[k]);\n", ""})
    static void backToAnImage() {
        OutOfPawn x = with(SHOP);
        Check.act(x, 0, 0, 0, 1, 0, 2);
        x.image(1);
        Check.book(x, "coin 5");
        due("best of the other", x.best(0), 5);
        due("two acts", x.back(1), 2);
        due("they are there", x.count(9), 2);
        due("its things", x.count(0), 7);
        due("its best", x.best(0), 23);
        due("its row", x.judged(2), 23);
        due("back again", x.back(1), 2);
    }

    @Edge(promise = 35, says = "NONE, and nothing happens, if it was never made, or without it.", broken = {
        "if (k < 0 || k >= MOST_IMAGES || !imageMade[k]) {", "if (k < 0 || k >= MOST_IMAGES) {",
        "if (k < 0 || k >= MOST_IMAGES || !imageMade[k]) {", "if (k < 0 || k > MOST_IMAGES || !imageMade[k]) {",
        "if (k < 0 || k >= MOST_IMAGES || !imageMade[k]) {\n            return NONE;", "if (k < 0 || k >= MOST_IMAGES || !imageMade[k]) {\n            acts.count = 0;\n            return NONE;",
        "if (k < 0 || k >= MOST_IMAGES || !imageMade[k]) {", "if (k >= MOST_IMAGES || !imageMade[k]) {"})
    static void backToNone() {
        OutOfPawn x = with(SHOP);
        Check.act(x, 0, 0, 0);
        for (int k = 0; k < 4; k++) {
            due("never made, " + k, x.back(k), -1);
        }
        x.image(2);
        due("4", x.back(4), -1);
        due("-1", x.back(-1), -1);
        due("most", x.back(Integer.MAX_VALUE), -1);
        due("least", x.back(Integer.MIN_VALUE), -1);
        due("still never made", x.back(3), -1);
        due("the row stays", x.count(9), 1);
        due("the book stays", x.count(0), 7);
        due("that one was made", x.back(2), 1);
    }
}
