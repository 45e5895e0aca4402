/** The sentences of the Terms, part I: texts of a BOOK and of RULES, their bounds, and their FAULTS. */
final class TextEdges {
    private static final String ALONE = "thing a 1 0";
    private static final String A = ALONE + ";";
    private static final String AB = "thing a 1 0;thing b 1 0;";
    private static final String EIGHT = "thing a 1 0;thing b 1 0;thing c 1 0;thing d 1 0;thing e 1 0;thing f 1 0;thing g 1 0;thing h 1 0;";
    /** 57 VALUES and 1 FACT, when a SIGN and no more VALUE stand behind. */
    private static final String FIFTY_SEVEN = "1" + "+1".repeat(56);

    private TextEdges() {
    }

    private static void due(String what, long got, long want) {
        Check.due(what, got, want);
    }

    private static void due(String what, boolean got, boolean want) {
        Check.due(what, got, want);
    }

    private static OutOfPawn with(String book, String... rules) {
        return Check.with(book, rules);
    }

    private static void book(String marked, int kind) {
        Check.bookFault(marked, kind);
    }

    private static void rule(String marked, int kind) {
        Check.ruleFault(marked, kind);
    }

    private static void fine(String text) {
        Check.fineBook(text);
    }

    private static void fineRule(String text) {
        Check.fineRule(text);
    }

    /** A NUMBER of a BOOK at its least and most, and one less and one more. */
    private static void range(String ahead, int least, int most, String behind) {
        fine(ahead + least + behind);
        fine(ahead + most + behind);
        if (least > 0) {
            book(ahead + "^" + (least - 1) + behind, 1);
        }
        book(ahead + "^" + (most + 1) + behind, 1);
        book(ahead + "^99999" + behind, 1);
    }

    private static boolean holds(String test) {
        return Check.holds(A, test, 0, 0);
    }

    /** What a SUM is, as a RULE likes thing a in week 0. */
    private static long sum(String sum) {
        return with(ALONE, "like " + sum).likes(0, 0, 0, 0, 0);
    }

    // ---- a book ----

    @Edge(promise = 4, says = "A BOOK is a text of at most 400 bytes: CLAUSE { ; CLAUSE }, 24 at most.", broken = {
        "TAPE_BYTES = 400;", "TAPE_BYTES = 380;",
        "TAPE_BYTES = 400;", "TAPE_BYTES = 420;",
        "kinds = new int[TAPE_BYTES + 1];", "kinds = new int[TAPE_BYTES];",
        "BOOK_CLAUSES = 24;", "BOOK_CLAUSES = 23;",
        "BOOK_CLAUSES = 24;", "BOOK_CLAUSES = 25;",
        "            expect(SEMICOLON);\n            return false;", "            next();\n            return kind == END;",
        "            expect(SEMICOLON);\n            return false;", "            if (kind == SEMICOLON) {\n                next();\n            }\n            return false;"})
    static void aBook() {
        fine("coin 5" + " ".repeat(394));
        book("coin 5" + " ".repeat(393) + "^!", 0);
        book("coin 5;" + " ".repeat(393) + "^", 0);
        book("^" + ";".repeat(400), 0);
        book("needs 1 if " + "[".repeat(10) + "^" + "[".repeat(379), 2);
        OutOfPawn x = new OutOfPawn();
        Check.tape(x, "coin 5" + " ".repeat(394));
        due("a byte more", x.feed(0, 0, 0, 0, 0), -1);
        due("400 bytes", x.book(), 0);
        book("^", 0);
        book("    ^", 0);
        fine("coin 5");
        fine("coin 5;luck 3");
        book("coin 5;^", 0);
        book("coin 5;  ^", 0);
        book("^;coin 5", 0);
        book("coin 5;^;luck 3", 0);
        book("coin 5 ^luck 3", 0);
        book("coin 5 ^, luck 3", 0);
        fine("needs 1" + ";needs 1".repeat(23));
        due("24 needs", with("needs 1" + ";needs 1".repeat(23)).count(7), 24);
        due("16 sets of 8 things", with(EIGHT + "set h earns 1" + ";set a earns 0".repeat(15)).count(6), 16);
        book("needs 1" + ";needs 1".repeat(23) + ";^needs 1", 4);
        book(EIGHT + "set h earns 1" + ";set a earns 0".repeat(15) + ";^coin 1", 4);
    }

    @Edge(promise = 4, says = "CLAUSE: thing LETTER NUMBER NUMBER { EXTRA }", broken = {
        "book.tellThing(thing, loan, number(0, MOST_RUNS));", "book.tellThing(thing, loan, kind == NUMBER ? number(0, MOST_RUNS) : 0);",
        "if (kind != LETTER) {\n                fail(MISPLACED);", "if (kind != LETTER) {\n                fail(WRONG_LETTER);",
        "if (sort < LOST || sort > WORTH) {\n                    return;", "if (sort < LENDS || sort > WORTH) {\n                    return;",
        "if (sort < LOST || sort > WORTH) {\n                    return;", "if (sort < LOST || sort > SELLS) {\n                    return;"})
    static void aThingClause() {
        fine("thing a 1 0");
        fine("thing a 1 0 worth 1 sells 1 lends 1 lost 1");
        book("thing^", 0);
        book("thing ^1 0", 0);
        book("thing a^", 0);
        book("thing a ^lost 1", 0);
        book("thing a 1^", 0);
        book("thing a 1^;coin 1", 0);
        book("thing a 1 ^lost 1", 0);
        book("thing a 1 0 ^1", 0);
        book("thing a 1 0 ^if 1=1", 0);
        book("thing a 1 0 ^b", 0);
    }

    @Edge(promise = 4, says = "set LETTER { LETTER } earns NUMBER [ if TEST ]", broken = {
        "            if (set == 0) {\n                fail(MISPLACED);\n                return;\n            }\n", "",
        "            expect(EARNS);\n", "            if (kind == EARNS) {\n                next();\n            }\n",
        "book.sets.add(set, amount, readIf());", "book.sets.add(set, amount, NONE);",
        "book.sets.add(set, amount, readIf());", "next();\n            readTest(0);\n            book.sets.add(set, amount, NONE);"})
    static void aSetClause() {
        fine(A + "set a earns 1");
        fine(EIGHT + "set h g f e d c b a earns 1 if 1=1");
        book(A + "set^", 0);
        book(A + "set ^earns 1", 0);
        book(A + "set ^1", 0);
        book(A + "set a^", 0);
        book(A + "set a ^1", 0);
        book(A + "set a ^if 1=1", 0);
        book(A + "set a earns^", 0);
        book(A + "set a earns ^if 1=1", 0);
        book(A + "set a earns 1 ^a", 0);
        book(A + "set a earns 1 ^1=1", 0);
        book(A + "set a earns 1 if^", 0);
        book(A + "set a earns 1 if ^;coin 1", 0);
        due("without a test", with(A + "set a earns 1").earned(1, 0, 0), 1);
        due("its test holds", with(A + "set a earns 1 if 1=1").earned(1, 0, 0), 1);
        due("its test does not", with(A + "set a earns 1 if 1=2").earned(1, 0, 0), 0);
    }

    @Edge(promise = 4, says = "needs NUMBER [ if TEST ]", broken = {
        "book.needs.add(0, amount, readIf());", "book.needs.add(0, amount, NONE);",
        "book.needs.add(0, amount, readIf());", "book.needs.add(0, 1, readIf());"})
    static void aNeedsClause() {
        due("without a test", with("needs 7").earned(0, 0, 1), 7);
        due("its test holds", with("needs 7 if 1=1").earned(0, 0, 1), 7);
        due("its test does not", with("needs 7 if 1=2").earned(0, 0, 1), 0);
        book("needs^", 0);
        book("needs ^if 1=1", 0);
        book("needs 7 ^1=1", 0);
        book("needs 7 if^", 0);
        book("needs 7 if 1=1 ^if 1=1", 0);
    }

    @Edge(promise = 4, says = "luck NUMBER", broken = {
        "case LUCK: book.luck = number(0, THOUSAND); break;", "case LUCK: book.luck = kind == NUMBER ? number(0, THOUSAND) : 0; break;",
        "case LUCK: book.luck = number(0, THOUSAND); break;", "case LUCK: book.luck = number(0, THOUSAND); readIf(); break;"})
    static void aLuckClause() {
        due("luck", with("luck 7").count(3), 7);
        book("luck^", 0);
        book("luck ^;coin 1", 0);
        book("luck ^a", 0);
        book("luck 7 ^7", 0);
        book("luck 7 ^if 1=1", 0);
    }

    @Edge(promise = 4, says = "cousin NUMBER till NUMBER", broken = {
        "            expect(TILL);\n", "            if (kind == TILL) {\n                next();\n            }\n",
        "            expect(TILL);\n            book.cousinWeek = number(1, MOST_WEEKS);", "            if (kind != TILL) {\n                return;\n            }\n            next();\n            book.cousinWeek = number(1, MOST_WEEKS);"})
    static void aCousinClause() {
        OutOfPawn x = with("cousin 7 till 9");
        due("lends", x.count(4), 7);
        due("till", x.count(5), 9);
        book("cousin^", 0);
        book("cousin ^till 9", 0);
        book("cousin 7^", 0);
        book("cousin 7 ^9", 0);
        book("cousin 7^;coin 1", 0);
        book("cousin 7 till^", 0);
        book("cousin 7 till 9 ^9", 0);
        book("cousin 7 till 9 ^till 9", 0);
        book("cousin 7 till 9 ^if 1=1", 0);
    }

    @Edge(promise = 4, says = "coin NUMBER", broken = {
        "case COIN: book.coin = number(0, MOST_AMOUNT); break;", "case COIN: book.coin = kind == NUMBER ? number(0, MOST_AMOUNT) : 0; break;",
        "case COIN: book.coin = number(0, MOST_AMOUNT); break;", "case COIN: book.coin = number(0, MOST_AMOUNT); readIf(); break;"})
    static void aCoinClause() {
        due("coin", with("coin 7").count(2), 7);
        book("coin^", 0);
        book("coin ^;luck 1", 0);
        book("coin ^coin", 0);
        book("coin 7 ^7", 0);
        book("coin 7 ^if 1=1", 0);
    }

    @Edge(promise = 4, says = "weeks NUMBER.", broken = {
        "case WEEKS: book.weeks = number(1, MOST_WEEKS); break;", "case WEEKS: book.weeks = kind == NUMBER ? number(1, MOST_WEEKS) : 1; break;",
        "case WEEKS: book.weeks = number(1, MOST_WEEKS); break;", "case WEEKS: book.weeks = number(1, MOST_WEEKS); readIf(); break;"})
    static void aWeeksClause() {
        due("weeks", with("weeks 7").count(1), 7);
        book("weeks^", 0);
        book("weeks ^;luck 1", 0);
        book("^week 7", 0);
        book("weeks 7 ^7", 0);
        book("weeks 7 ^if 1=1", 0);
    }

    @Edge(promise = 4, says = "EXTRA: lost NUMBER | lends NUMBER | sells NUMBER | worth NUMBER (each once at most of a THING).", broken = {
        "if ((seen >> sort & 1) != 0) {\n                    fail(CLAUSE_TOO_MANY);", "if ((seen >> sort & 1) != 0 && sort != WORTH) {\n                    fail(CLAUSE_TOO_MANY);",
        "if ((seen >> sort & 1) != 0) {\n                    fail(CLAUSE_TOO_MANY);", "if ((seen >> sort & 1) != 0 && sort != LOST) {\n                    fail(CLAUSE_TOO_MANY);",
        "if ((seen >> sort & 1) != 0) {\n                    fail(CLAUSE_TOO_MANY);", "if (seen != 0) {\n                    fail(CLAUSE_TOO_MANY);",
        "                seen |= 1 << sort;\n", "                seen = 1 << sort;\n"})
    static void extras() {
        OutOfPawn x = with("thing a 1 0 worth 4 lost 1 sells 3 lends 2;thing b 1 0 lost 5 lends 6 sells 7 worth 8");
        int[][] told = {{1, 2, 3, 4}, {5, 6, 7, 8}};
        for (int thing = 0; thing < 2; thing++) {
            for (int what = 0; what < 4; what++) {
                due("thing " + thing + " what " + (what + 2), x.thing(thing, what + 2), told[thing][what]);
            }
        }
        for (String extra : new String[] {"lost", "lends", "sells", "worth"}) {
            book("thing a 1 0 " + extra + " 1 ^" + extra + " 1", 4);
            book("thing a 1 0 " + extra + "^", 0);
            book("thing a 1 0 " + extra + " ^;coin 1", 0);
            book("thing a 1 0 " + extra + " 1 ^1", 0);
        }
        book("thing a 1 0 lost 1 lends 1 sells 1 worth 1 ^lost 1", 4);
        book("coin 5 ^lost 1", 0);
        book("^lost 1", 0);
    }

    @Edge(promise = 4, says = "LETTERS: single letters a to h, the names of THINGS 0 to 7.", broken = {
        "behind - place == 1 && sign <= 'h'", "behind - place == 1 && sign <= 'g'",
        "behind - place == 1 && sign <= 'h'", "behind - place == 1 && sign <= 'i'",
        "behind - place == 1 && sign <= 'h'", "behind - place == 1 && sign > 'a' && sign <= 'h'",
        "behind - place == 1 && sign <= 'h'", "behind - place <= 2 && sign <= 'h'",
        "if (sign >= 'a' && sign <= 'z') {", "if (sign >= 'a' && sign <= 'h' && place > 5 && text[place - 1] == ' ' && place + 1 < length && text[place + 1] <= 'h') {\n                add(LETTER, sign - 'a', place);\n                return place + 1;\n            }\n            if (sign >= 'a' && sign <= 'z') {"})
    static void letters() {
        OutOfPawn x = with("thing h 8 0;thing a 1 0;set a h earns 1;set h earns 2");
        due("a is thing 0", x.thing(0, 0), 1);
        due("h is thing 7", x.thing(7, 0), 8);
        due("both earn", x.earned(129, 0, 0), 3);
        due("h earns", x.earned(128, 0, 0), 2);
        book("thing ^i 1 0", 0);
        book("thing ^z 1 0", 0);
        book("thing ^A 1 0", 0);
        book("thing ^ab 1 0", 0);
        book("thing ^aa 1 0", 0);
        book("thing ^` 1 0", 0);
        book(AB + "set ^ab earns 1", 0);
        book(AB + "set a^{b earns 1", 0);
        book(A + "set a ^i earns 1", 0);
        book(A + "set ^aearns 1", 0);
        fine("thing a1 0;set a earns1");
    }

    @Edge(promise = 4, says = "A THING (each once):", broken = {
        "if (book.has(thing)) {\n                fail(WRONG_LETTER);\n                return;\n            }\n            next();", "next();",
        "if (book.has(thing)) {\n                fail(WRONG_LETTER);\n                return;\n            }\n            next();", "if (book.things != 0) {\n                fail(WRONG_LETTER);\n                return;\n            }\n            next();"})
    static void eachThingOnce() {
        fine(EIGHT + "coin 1");
        book(A + "thing ^a 1 0", 5);
        book("thing a 1 0 lost 3;coin 5;thing ^a 2 0", 5);
        book(EIGHT + "thing ^h 2 0", 5);
    }

    @Edge(promise = 4, says = "its LOAN (1 to 9999),", broken = {
        "int loan = number(1, MOST_AMOUNT);", "int loan = number(0, MOST_AMOUNT);",
        "int loan = number(1, MOST_AMOUNT);", "int loan = number(2, MOST_AMOUNT);",
        "int loan = number(1, MOST_AMOUNT);", "int loan = number(1, MOST_AMOUNT - 1);",
        "int loan = number(1, MOST_AMOUNT);", "int loan = number(1, MOST_AMOUNT + 1);"})
    static void loans() {
        range("thing a ", 1, 9999, " 0");
        due("least", with("thing a 1 0").thing(0, 0), 1);
        due("most", with("thing a 9999 0").thing(0, 0), 9999);
    }

    @Edge(promise = 4, says = "what it RUNS a week (0 to 999);", broken = {
        "MOST_RUNS = 999;", "MOST_RUNS = 998;",
        "MOST_RUNS = 999;", "MOST_RUNS = 1000;",
        "number(0, MOST_RUNS));", "number(1, MOST_RUNS));"})
    static void runs() {
        range("thing a 1 ", 0, 999, "");
        due("least", with("thing a 1 0").thing(0, 1), 0);
        due("most", with("thing a 1 999").thing(0, 1), 999);
    }

    @Edge(promise = 4, says = "it is lost in a WEEK (1 to 60; never without),", broken = {
        "book.lost[thing] = number(1, MOST_WEEKS);", "book.lost[thing] = number(0, MOST_WEEKS);",
        "book.lost[thing] = number(1, MOST_WEEKS);", "book.lost[thing] = number(2, MOST_WEEKS);",
        "book.lost[thing] = number(1, MOST_WEEKS);", "book.lost[thing] = number(1, MOST_WEEKS - 1);",
        "book.lost[thing] = number(1, MOST_WEEKS);", "book.lost[thing] = number(1, MOST_WEEKS + 1);",
        "                lost[thing] = NONE;\n", "                lost[thing] = MOST_WEEKS;\n"})
    static void lostWeeks() {
        range("thing a 1 0 lost ", 1, 60, "");
        due("least", with("thing a 1 0 lost 1").thing(0, 2), 1);
        due("most", with("thing a 1 0 lost 60").thing(0, 2), 60);
        due("without", with("thing a 1 0").thing(0, 2), -1);
        due("never", with("thing a 1 0;weeks 60").needed(0, 60), 1);
    }

    @Edge(promise = 4, says = "lent again for (0 to 9999; 0 without),", broken = {
        "book.lends[thing] = number(0, MOST_AMOUNT);", "book.lends[thing] = number(1, MOST_AMOUNT);",
        "book.lends[thing] = number(0, MOST_AMOUNT);", "book.lends[thing] = number(0, MOST_AMOUNT - 1);",
        "book.lends[thing] = number(0, MOST_AMOUNT);", "book.lends[thing] = number(0, MOST_AMOUNT + 1);",
        "                lends[thing] = 0;\n", "                lends[thing] = itsLoan;\n"})
    static void lends() {
        range("thing a 1 0 lends ", 0, 9999, "");
        due("least", with("thing a 1 0 lends 0").thing(0, 3), 0);
        due("most", with("thing a 1 0 lends 9999").thing(0, 3), 9999);
        due("without", with("thing a 1 0").thing(0, 3), 0);
    }

    @Edge(promise = 4, says = "its ticket sells for (0 to 9999; 0 without),", broken = {
        "book.sells[thing] = number(0, MOST_AMOUNT);", "book.sells[thing] = number(1, MOST_AMOUNT);",
        "book.sells[thing] = number(0, MOST_AMOUNT);", "book.sells[thing] = number(0, MOST_AMOUNT - 1);",
        "book.sells[thing] = number(0, MOST_AMOUNT);", "book.sells[thing] = number(0, MOST_AMOUNT + 1);",
        "                sells[thing] = 0;\n", "                sells[thing] = itsLoan;\n"})
    static void sells() {
        range("thing a 1 0 sells ", 0, 9999, "");
        due("least", with("thing a 1 0 sells 0").thing(0, 4), 0);
        due("most", with("thing a 1 0 sells 9999").thing(0, 4), 9999);
        due("without", with("thing a 1 0").thing(0, 4), 0);
    }

    @Edge(promise = 4, says = "worth at home (0 to 9999; 0 without).", broken = {
        "book.worth[thing] = number(0, MOST_AMOUNT);", "book.worth[thing] = number(1, MOST_AMOUNT);",
        "book.worth[thing] = number(0, MOST_AMOUNT);", "book.worth[thing] = number(0, MOST_AMOUNT - 1);",
        "book.worth[thing] = number(0, MOST_AMOUNT);", "book.worth[thing] = number(0, MOST_AMOUNT + 1);",
        "                worth[thing] = 0;\n", "                worth[thing] = itsLoan;\n"})
    static void worths() {
        range("thing a 1 0 worth ", 0, 9999, "");
        due("least", with("thing a 1 0 worth 0").thing(0, 5), 0);
        due("most", with("thing a 1 0 worth 9999").thing(0, 5), 9999);
        due("without", with("thing a 1 0").thing(0, 5), 0);
    }

    @Edge(promise = 4, says = "sets, needs: 0 to 9999.", broken = {
        "int amount = number(0, MOST_AMOUNT);\n            book.sets", "int amount = number(1, MOST_AMOUNT);\n            book.sets",
        "int amount = number(0, MOST_AMOUNT);\n            book.sets", "int amount = number(0, MOST_AMOUNT - 1);\n            book.sets",
        "int amount = number(0, MOST_AMOUNT);\n            book.sets", "int amount = number(0, MOST_AMOUNT + 1);\n            book.sets",
        "int amount = number(0, MOST_AMOUNT);\n            book.needs", "int amount = number(1, MOST_AMOUNT);\n            book.needs",
        "int amount = number(0, MOST_AMOUNT);\n            book.needs", "int amount = number(0, MOST_AMOUNT - 1);\n            book.needs",
        "int amount = number(0, MOST_AMOUNT);\n            book.needs", "int amount = number(0, MOST_AMOUNT + 1);\n            book.needs"})
    static void setsAndNeeds() {
        range(A + "set a earns ", 0, 9999, "");
        range(A + "set a earns ", 0, 9999, " if 1=1");
        range("needs ", 0, 9999, "");
        range("needs ", 0, 9999, " if 1=1");
        due("most of a set", with(A + "set a earns 9999;set a earns 0").earned(1, 0, 0), 9999);
        due("most needs", with("needs 9999" + ";needs 9999".repeat(23)).earned(0, 0, 1), 24 * 9999);
    }

    @Edge(promise = 4, says = "luck 0 to 1000 thousandths (1000 without).", broken = {
        "book.luck = number(0, THOUSAND);", "book.luck = number(1, THOUSAND);",
        "book.luck = number(0, THOUSAND);", "book.luck = number(0, THOUSAND - 1);",
        "book.luck = number(0, THOUSAND);", "book.luck = number(0, THOUSAND + 1);",
        "            luck = THOUSAND;\n", "            luck = THOUSAND - 1;\n"})
    static void luck() {
        range("luck ", 0, 1000, "");
        due("least", with("luck 0").count(3), 0);
        due("most", with("luck 1000").count(3), 1000);
        due("without", with("coin 1").count(3), 1000);
    }

    @Edge(promise = 4, says = "cousin: lends 0 to 9999 till a WEEK (1 to 60; none without).", broken = {
        "book.cousinLends = number(0, MOST_AMOUNT);", "book.cousinLends = number(1, MOST_AMOUNT);",
        "book.cousinLends = number(0, MOST_AMOUNT);", "book.cousinLends = number(0, MOST_AMOUNT - 1);",
        "book.cousinLends = number(0, MOST_AMOUNT);", "book.cousinLends = number(0, MOST_AMOUNT + 1);",
        "book.cousinWeek = number(1, MOST_WEEKS);", "book.cousinWeek = number(0, MOST_WEEKS);",
        "book.cousinWeek = number(1, MOST_WEEKS);", "book.cousinWeek = number(2, MOST_WEEKS);",
        "book.cousinWeek = number(1, MOST_WEEKS);", "book.cousinWeek = number(1, MOST_WEEKS - 1);",
        "book.cousinWeek = number(1, MOST_WEEKS);", "book.cousinWeek = number(1, MOST_WEEKS + 1);"})
    static void cousins() {
        range("cousin ", 0, 9999, " till 1");
        range("cousin 1 till ", 1, 60, "");
        OutOfPawn x = with("cousin 0 till 60");
        due("least", x.count(4), 0);
        due("last week", x.count(5), 60);
        due("most", with("cousin 9999 till 1").count(4), 9999);
        due("first week", with("cousin 9999 till 1").count(5), 1);
        due("none lends nothing", with("coin 1").count(4), 0);
        due("none", with("coin 1").count(5), -1);
    }

    @Edge(promise = 4, says = "coin at first 0 to 9999 (0 without).", broken = {
        "book.coin = number(0, MOST_AMOUNT);", "book.coin = number(1, MOST_AMOUNT);",
        "book.coin = number(0, MOST_AMOUNT);", "book.coin = number(0, MOST_AMOUNT - 1);",
        "book.coin = number(0, MOST_AMOUNT);", "book.coin = number(0, MOST_AMOUNT + 1);",
        "            coin = 0;\n            luck", "            coin = 1;\n            luck"})
    static void coins() {
        range("coin ", 0, 9999, "");
        due("least", with("coin 0").count(2), 0);
        due("most", with("coin 9999").count(2), 9999);
        due("without", with("luck 1").count(2), 0);
    }

    @Edge(promise = 4, says = "weeks 1 to 60 (12 without): WEEKS are 0 to one less.", broken = {
        "book.weeks = number(1, MOST_WEEKS);", "book.weeks = number(0, MOST_WEEKS);",
        "book.weeks = number(1, MOST_WEEKS);", "book.weeks = number(2, MOST_WEEKS);",
        "book.weeks = number(1, MOST_WEEKS);", "book.weeks = number(1, MOST_WEEKS - 1);",
        "book.weeks = number(1, MOST_WEEKS);", "book.weeks = number(1, MOST_WEEKS + 1);",
        "PLAIN_WEEKS = 12;", "PLAIN_WEEKS = 13;",
        "for (int week = 0; week < book.weeks && week < MOST_WEEKS; week++) {\n                startWeek(week);\n                if", "for (int week = 0; week <= book.weeks && week < MOST_WEEKS; week++) {\n                startWeek(week);\n                if"})
    static void weeks() {
        range("weeks ", 1, 60, "");
        for (int weeks : new int[] {1, 2, 59, 60}) {
            OutOfPawn x = with("weeks " + weeks + ";coin 100;needs 1");
            due("weeks", x.count(1), weeks);
            due("the last week", x.then(weeks - 1, 0), 100 - weeks);
            due("no week behind it", x.then(weeks, 0), -2);
            due("states", x.best(3), weeks);
        }
        due("without", with("coin 100").count(1), 12);
        due("the last of these", with("coin 100").then(11, 0), 100);
        due("none behind it", with("coin 100").then(12, 0), -2);
    }

    @Edge(promise = 4, says = "luck, cousin, coin, weeks once at most each.", broken = {
        "kind == LUCK || kind == COUSIN || kind == COIN || kind == WEEKS || kind == KEEP;\n        }\n\n        private boolean isAtEnd", "kind == LUCK || kind == COUSIN || kind == COIN || kind == WEEKS || kind == KEEP || kind == NEEDS;\n        }\n\n        private boolean isAtEnd",
        "            if (isOnceOnly()) {\n", "            if (isOnceOnly() && kind != LUCK) {\n",
        "            if (isOnceOnly()) {\n", "            if (isOnceOnly() && kind != COUSIN) {\n",
        "            if (isOnceOnly()) {\n", "            if (isOnceOnly() && kind != COIN) {\n",
        "            if (isOnceOnly()) {\n", "            if (isOnceOnly() && kind != WEEKS) {\n"})
    static void onceAtMostEach() {
        fine("luck 1;cousin 1 till 1;coin 1;weeks 1");
        fine("weeks 1;coin 1;cousin 1 till 1;luck 1;needs 1;needs 1");
        fine(A + "set a earns 1;set a earns 1");
        book("luck 1;coin 2;^luck 1", 4);
        book("cousin 1 till 1;coin 2;^cousin 1 till 1", 4);
        book("coin 1;luck 2;^coin 1", 4);
        book("weeks 1;coin 2;^weeks 1", 4);
    }

    @Edge(promise = 4, says = "LETTERS of a set are THINGS told ahead of it, each once in it.", broken = {
        "if (!book.has(thing) || (set >> thing & 1) != 0) {", "if (!book.has(thing)) {",
        "if (!book.has(thing) || (set >> thing & 1) != 0) {", "if ((set >> thing & 1) != 0) {"})
    static void lettersOfASet() {
        fine(AB + "set a earns 1;set a b earns 1;set b a earns 1;set a earns 1");
        book("set ^a earns 1", 5);
        book("set ^a earns 1;thing a 1 0", 5);
        book("thing b 1 0;set b ^a earns 1;thing a 1 0", 5);
        book(A + "set a ^a earns 1", 5);
        book(AB + "set a b ^a earns 1", 5);
        book(EIGHT + "set a b c d e f g h ^h earns 1", 5);
    }

    // ---- rules ----

    @Edge(promise = 5, says = "RULES 0 to 5: texts of at most 400 bytes: CLAUSE { ; CLAUSE }, 12 at most:", broken = {
        "RULE_CLAUSES = 12;", "RULE_CLAUSES = 11;",
        "RULE_CLAUSES = 12;", "RULE_CLAUSES = 13;",
        "MOST_RULES = 6;", "MOST_RULES = 5;",
        "TAPE_BYTES = 400;", "TAPE_BYTES = 380;",
        "return kind == LIKE || kind == KEEP;\n            }", "return kind == LIKE || isOnceOnly();\n            }"})
    static void rules() {
        OutOfPawn x = new OutOfPawn();
        for (int i = 0; i < 6; i++) {
            due("rule " + i, Check.rule(x, "like 1"), i);
        }
        fineRule("like 1" + " ".repeat(394));
        rule("like 1" + " ".repeat(393) + "^!", 0);
        rule("like 1;" + " ".repeat(393) + "^", 0);
        rule("^", 0);
        rule("   ^", 0);
        rule("^;", 0);
        rule("like 1;^", 0);
        rule("like 1;^;like 1", 0);
        rule("like 1 ^like 1", 0);
        rule("^coin 1", 0);
        rule("^needs 1", 0);
        fineRule("like 1" + ";like 1".repeat(11));
        rule("like 1" + ";like 1".repeat(11) + ";^like 1", 4);
        due("the twelfth is liked", with(ALONE, "like 1 if 1=2" + ";like 1 if 1=2".repeat(10) + ";like 5").likes(0, 0, 0, 0, 0), 5);
        fineRule("keep 1" + ";like 1".repeat(11));
        rule("keep 1" + ";like 1".repeat(11) + ";^like 1", 4);
    }

    @Edge(promise = 5, says = "like SUM [ if TEST ] |", broken = {
        "rule.add(start, readIf());", "rule.add(start, NONE);",
        "            readSum();\n            code.add(STOP, 0);\n            rule.add", "            code.add(NUMBER, 1);\n            code.add(STOP, 0);\n            rule.add"})
    static void likeClauses() {
        due("without a test", sum("7"), 7);
        due("its test holds", sum("7 if 1=1"), 7);
        due("its test does not", sum("7 if 1=2"), 0);
        rule("like^", 0);
        rule("like ^;", 0);
        rule("like ^if 1=1", 0);
        rule("like 7 ^=7", 0);
        rule("like ^[7]", 0);
        rule("like ^not 7=7", 0);
        rule("like 7 if^", 0);
        rule("like 7 if ^;like 1", 0);
        rule("like 7 if 1=1 ^if 1=1", 0);
    }

    @Edge(promise = 5, says = "keep NUMBER (0 to 9999; 0 without; once at most).", broken = {
        "rule.keep = number(0, MOST_AMOUNT);", "rule.keep = number(1, MOST_AMOUNT);",
        "rule.keep = number(0, MOST_AMOUNT);", "rule.keep = number(0, MOST_AMOUNT - 1);",
        "rule.keep = number(0, MOST_AMOUNT);", "rule.keep = number(0, MOST_AMOUNT + 1);",
        "            if (isOnceOnly()) {\n", "            if (isOnceOnly() && kind != KEEP) {\n",
        "            keep = 0;\n", "            keep = 1;\n"})
    static void keeps() {
        fineRule("keep 0");
        fineRule("keep 9999");
        rule("keep ^10000", 1);
        rule("keep ^99999", 1);
        rule("keep^", 0);
        rule("keep ^week", 0);
        rule("keep 5 ^5", 0);
        rule("keep 5 ^if 1=1", 0);
        rule("keep 5;like 1;^keep 5", 4);
        rule("keep 5;^keep", 4);
        due("without", with(A + "coin 1", "like 1").ruled(0, 1), 1);
        due("0", with(A + "coin 1", "like 1;keep 0").ruled(0, 1), 1);
        due("1", with(A + "coin 1", "keep 1;like 1").ruled(0, 1), 0);
        due("9999", with(A + "coin 9999", "keep 9999;like 1").ruled(0, 1), 0);
        due("9998", with(A + "coin 9999", "keep 9998;like 1").ruled(0, 1), 1);
    }

    // ---- tests and sums ----

    @Edge(promise = 9, says = "TEST: PART { or PART }.", broken = {
        "default: return a | b;", "default: return a;",
        "default: return a | b;", "default: return b;",
        "default: return a | b;", "default: return a ^ b;"})
    static void tests() {
        due("one part", holds("1=1"), true);
        due("or behind", holds("1=2 or 1=1"), true);
        due("or ahead", holds("1=1 or 1=2"), true);
        due("both", holds("1=1 or 1=1"), true);
        due("neither", holds("1=2 or 1=2"), false);
        due("many", holds("1=2" + " or 1=2".repeat(18) + " or 1=1"), true);
        book("needs 1 if ^or 1=1", 0);
        book("needs 1 if 1=1 or^", 0);
        book("needs 1 if 1=1 or ^or 1=1", 0);
        book("needs 1 if 1=1 or ^; coin 1", 0);
    }

    @Edge(promise = 9, says = "PART: FACT { and FACT }.", broken = {
        "case AND: return a & b;", "case AND: return a;",
        "case AND: return a & b;", "case AND: return b;",
        "case AND: return a & b;", "case AND: return a | b;",
        "                    if (facts > 0) {\n                        code.add(AND, 0);\n                    }\n                    if (fault != 0 || kind != AND) {", "                    if (facts > 0) {\n                        code.add(OR, 0);\n                    }\n                    if (fault != 0 || kind != AND) {"})
    static void parts() {
        due("one fact", holds("1=2"), false);
        due("both", holds("1=1 and 1=1"), true);
        due("the first", holds("1=1 and 1=2"), false);
        due("the second", holds("1=2 and 1=1"), false);
        due("and is ahead of or, behind it", holds("1=1 or 1=1 and 1=2"), true);
        due("and is ahead of or, ahead of it", holds("1=2 and 1=2 or 1=1"), true);
        due("many", holds("1=1" + " and 1=1".repeat(18) + " and 1=2"), false);
        book("needs 1 if ^and 1=1", 0);
        book("needs 1 if 1=1 and^", 0);
        book("needs 1 if 1=1 and ^and 1=1", 0);
        book("needs 1 if 1=1 and ^or 1=1", 0);
    }

    @Edge(promise = 9, says = "FACT: not FACT | [ TEST ] (these brackets are signs) | SUM SIGN SUM, SIGN one of < <= = >= >.", broken = {
        "case LESS: return a < b ? 1L : 0L;", "case LESS: return a <= b ? 1L : 0L;",
        "case AT_MOST: return a <= b ? 1L : 0L;", "case AT_MOST: return a < b ? 1L : 0L;",
        "case EQUAL: return a == b ? 1L : 0L;", "case EQUAL: return a >= b ? 1L : 0L;",
        "case AT_LEAST: return a >= b ? 1L : 0L;", "case AT_LEAST: return a > b ? 1L : 0L;",
        "case MORE: return a > b ? 1L : 0L;", "case MORE: return a >= b ? 1L : 0L;",
        "                        stack[depth - 1] = 1L - stack[depth - 1];\n", "",
        "                readFact(depth + 1);\n                code.add(NOT, 0);", "                readTest(depth + 1);\n                code.add(NOT, 0);",
        "case AT_MOST: return a <= b ? 1L : 0L;", "case AT_MOST: return a <= b ? 2L : 0L;",
        "case AT_LEAST: return a >= b ? 1L : 0L;", "case AT_LEAST: return a >= b ? 2L : 0L;",
        "                if (parts > 0) {\n", "                if (parts >= 0) {\n",
        "                expect(CLOSE);\n", ""})
    static void facts() {
        String[] signs = {"<", "<=", "=", ">=", ">"};
        boolean[][] due = {{true, false, false}, {true, true, false}, {false, true, false}, {false, true, true}, {false, false, true}};
        for (int i = 0; i < 5; i++) {
            for (int left = 4; left <= 6; left++) {
                due(left + signs[i] + "5", holds(left + signs[i] + "5"), due[i][left - 4]);
            }
        }
        due("not", holds("not 1=2"), true);
        due("not of one fact alone", holds("not 1=2 and 1=2"), false);
        due("not of one fact alone, or", holds("not 1=1 or 1=1"), true);
        due("not of a test", holds("not [1=2 and 1=2]"), true);
        due("not not", holds("not not 1=1"), true);
        for (int i = 0; i < 5; i++) {
            String one = (i < 2 ? "4" : i == 2 ? "5" : "6") + signs[i] + "5";
            due("two that hold: " + one, holds(one + " and " + one + " and 1=1"), true);
            due("not one that holds: " + one, holds("not " + one), false);
            due("not not one that holds: " + one, holds("not [not " + one + "]"), true);
        }
        due("brackets", holds("[1=1 or 1=1] and 1=2"), false);
        due("brackets behind", holds("1=1 and [1=2]"), false);
        due("brackets behind or", holds("1=2 or [1=1 and 1=2]"), false);
        due("brackets in brackets behind", holds("1=1 and [1=1 and [1=2]]"), false);
        due("brackets in brackets", holds("[[1=2]or[1=1]]"), true);
        book("needs 1 if not^", 0);
        book("needs 1 if [^]", 0);
        book("needs 1 if [1=1^", 0);
        book("needs 1 if [1=1^;coin 1", 0);
        book("needs 1 if 1=1^]", 0);
        book("needs 1 if [1^]=1", 0);
        book("needs 1 if 1^", 0);
        book("needs 1 if 1=^", 0);
        book("needs 1 if ^=1", 0);
        book("needs 1 if 1=1^=1", 0);
        book("needs 1 if 1=^<1", 0);
        book("needs 1 if 1>^<1", 0);
        book("needs 1 if 1<^<1", 0);
        book("needs 1 if 1 < ^= 1", 0);
        book("needs 1 if 1^!=1", 0);
        book("needs 1 if 1=^not 1=1", 0);
        book("needs 1 if ^(1=1)", 0);
        book("needs 1 if 1=1 ^not 1=1", 0);
    }

    @Edge(promise = 24, says = "SUM: TERM { (+ or -) TERM }.", broken = {
        "case MINUS: return a - b;", "case MINUS: return b - a;",
        "case PLUS: return a + b;", "case PLUS: return a - b;",
        "                if (joining != STOP) {\n                    code.add(joining, 0);\n                }\n                if (kind != PLUS && kind != MINUS) {", "                if (joining != STOP) {\n                    code.add(joining, 0);\n                }\n                if (kind != PLUS) {"})
    static void sums() {
        due("one term", sum("7"), 7);
        due("plus", sum("7+2"), 9);
        due("minus", sum("7-2"), 5);
        due("below 0", sum("2-7"), -5);
        due("from the left", sum("9-3-2"), 4);
        due("mixed", sum("9-3+2"), 8);
        rule("like ^-1", 0);
        rule("like ^+1", 0);
        rule("like 1+^", 0);
        rule("like 1-^;like 1", 0);
        rule("like 1+^+1", 0);
        rule("like 1-^-1", 0);
        rule("like 1 ^1", 0);
    }

    @Edge(promise = 24, says = "TERM: VALUE { (* or /) VALUE }.", broken = {
        "case TIMES: return a * b;", "case TIMES: return a + b;",
        "case BY: return b == 0L ? 0L : a / b;", "case BY: return b == 0L ? 0L : b / a;",
        "                    readValue();\n                    code.add(sign, 0);", "                    readSum();\n                    code.add(sign, 0);"})
    static void terms() {
        due("times", sum("7*3"), 21);
        due("by", sum("7/3"), 2);
        due("from the left, by times", sum("7/2*2"), 6);
        due("from the left, by by", sum("100/10/5"), 2);
        due("ahead of plus", sum("2+3*4"), 14);
        due("ahead of minus", sum("20-3*4-1"), 7);
        due("by ahead of minus", sum("9-7/2"), 6);
        rule("like ^*1", 0);
        rule("like 1*^", 0);
        rule("like 1/^/1", 0);
        rule("like 1*^-1", 0);
        rule("like 1+^*1", 0);
    }

    @Edge(promise = 24, says = "VALUE: NUMBER (1 to 5 digits, as far as digits go on) | WORD.", broken = {
        "MOST_DIGITS = 5;", "MOST_DIGITS = 4;",
        "MOST_DIGITS = 5;", "MOST_DIGITS = 6;",
        "number = number * 10 + text[i] - '0';", "number = number * 8 + text[i] - '0';",
        "sign >= '0' && sign <= '9'", "sign > '0' && sign <= '9'",
        "NUMBER_MASK = 131071;", "NUMBER_MASK = 65535;"})
    static void values() {
        due("least", sum("0"), 0);
        due("one digit", sum("9"), 9);
        due("five digits", sum("99999"), 99999);
        due("five digits of 0", sum("00000"), 0);
        due("0 ahead", sum("00010"), 10);
        due("digits go on till a word", sum("12345if 1=1"), 12345);
        due("a word", sum("owed"), 1);
        rule("like ^100000", 1);
        rule("like ^000000", 1);
        rule("like 1+^123456", 1);
        rule("like ^" + "9".repeat(395), 1);
        rule("like ^a", 0);
        rule("like 1 ^2", 0);
        rule("like 1^.5", 0);
        book("coin ^00001" + "0", 1);
        fine("coin 00001");
    }

    @Edge(promise = 9, says = "WORDS (small letters, as far as these go on) of a BOOK: week, home (how many THINGS are HOME), in (how many are IN);", broken = {
        "            words[HOME] = Integer.bitCount(home);\n", "            words[HOME] = home;\n",
        "            words[IN] = Integer.bitCount(in);\n", "            words[IN] = in;\n",
        "            words[WEEK] = week;\n            words[HOME] = Integer", "            words[WEEK] = week + 1;\n            words[HOME] = Integer",
        "return ofRule && (kind >= OWED && kind <= ADDS || kind == WORTH || kind == COIN);", "return kind >= OWED && kind <= ADDS || kind == WORTH || kind == COIN;",
        "if (to - from == behind - place && isSame", "if (to - from >= behind - place && isSame"})
    static void wordsOfABook() {
        String things = "thing a 1 0;thing d 1 0;thing h 1 0;";
        due("week 0", Check.holds(things, "week=0", 0, 0), true);
        due("week 60", Check.holds(things, "week=60", 60, 0), true);
        due("none home", Check.holds(things, "home=0 and in=3", 0, 0), true);
        due("one home", Check.holds(things, "home=1 and in=2", 0, 128), true);
        due("all home", Check.holds(things, "home=3 and in=0", 0, 137), true);
        due("no things", Check.holds("", "home=0 and in=0", 0, 0), true);
        for (String word : new String[] {"owed", "runs", "left", "adds", "worth", "coin", "weeks", "homes", "inn", "i", "wee", "a", "luck", "Week", "x"}) {
            book(things + "needs 1 if ^" + word + "=1", 0);
        }
        book("needs 1 if week^_=1", 0);
        book("needs 1 if home ^week=1", 0);
        book("needs 1 if ^homein=1", 0);
    }

    @Edge(promise = 24, says = "of a RULE, of a THING: owed, runs, left (WEEKS till it is lost; 9999 if never), adds (by how much more all sets earn in this WEEK if it is HOME, too), worth, week, coin, home, in.", broken = {
        "NEVER_LEFT = 9999;", "NEVER_LEFT = 10000;",
        "asking.words[OWED] = owedNow(thing, week);", "asking.words[OWED] = loan[thing];",
        "asking.words[RUNS] = runs[thing];", "asking.words[RUNS] = 0;",
        "book.lost[thing] - week;", "book.lost[thing];",
        "book.earnings(scene, week, home | bit, in & ~bit) - earned;", "book.earnings(scene, week, home | bit, in) - earned;",
        "book.earnings(scene, week, home | bit, in & ~bit) - earned;", "Math.max(0, book.earnings(scene, week, home | bit, in & ~bit) - earned);",
        "book.earnings(scene, week, home | bit, in & ~bit) - earned;", "book.earnings(scene, week, home | bit, in & ~bit);",
        "book.earnings(scene, week, home | bit, in & ~bit) - earned;", "book.earnings(scene, week, home | bit, in & bit) - earned;",
        "                asked |= 1 << number;", "                asked = 1 << number;",
        "asking.words[WORTH] = book.worth[thing];", "asking.words[WORTH] = book.sells[thing];",
        "asking.words[COIN] = coin;", "asking.words[COIN] = book.coin;"})
    static void wordsOfARule() {
        OutOfPawn x = with("thing a 10 3 lost 59 worth 9999;thing b 1 0;thing h 9999 999 lost 1;set a earns 7;set h earns 9 if home=1;"
            + "set a b earns 4 if in=1;weeks 60;coin 3",
            "like owed*1000+runs", "like left", "like adds", "like worth", "like week*1000+coin", "like home*10+in");
        due("owed and runs", x.likes(0, 0, 2, 0, 0), 16003);
        due("owed and runs, most", x.likes(0, 7, 59, 0, 0), (9999 + 999 * 59) * 1000 + 999);
        due("left at first", x.likes(1, 0, 0, 0, 0), 59);
        due("left one week", x.likes(1, 0, 58, 0, 0), 1);
        due("left none", x.likes(1, 0, 59, 0, 0), 0);
        due("never lost", x.likes(1, 1, 0, 0, 0), 9999);
        due("never lost, in the last week", x.likes(1, 1, 59, 0, 0), 9999);
        due("adds its own", x.likes(2, 0, 0, 0, 0), 7);
        due("adds what it earns with another", x.likes(2, 1, 0, 1, 0), 4);
        due("adds nothing", x.likes(2, 1, 0, 0, 0), 0);
        due("takes away", x.likes(2, 1, 0, 128, 0), -9);
        OutOfPawn four = with("thing a 1 0;thing b 1 0;thing c 1 0;thing d 1 0;set a earns 7 if in=2;set a b earns 5 if in=3", "like adds+0*week", "like 0*week+adds");
        due("adds by how many others are in then", four.likes(0, 0, 0, 2, 0), 7);
        due("adds, the last word", four.likes(1, 0, 0, 4, 0), 7);
        due("adds by how many are in then, not ahead of it", four.likes(0, 1, 0, 1, 0), 7);
        due("worth, most", x.likes(3, 0, 0, 0, 0), 9999);
        due("worth, none told", x.likes(3, 1, 0, 0, 0), 0);
        due("week and coin", x.likes(4, 1, 59, 0, 999), 59999);
        due("home and in, none home", x.likes(5, 1, 0, 0, 0), 3);
        due("home and in, all others home", x.likes(5, 1, 0, 129, 0), 21);
        for (String word : new String[] {"lost", "lends", "sells", "weeks", "luck", "loan", "a", "like"}) {
            rule("like ^" + word, 0);
            rule("like 1 if ^" + word + "=1", 0);
        }
        fineRule("like 1 if owed+runs+left+adds+worth+week+coin+home+in=1");
    }

    @Edge(promise = 24, says = "/ is towards 0, 0 by 0; all goes round in 64 bits.", broken = {
        "b == 0L ? 0L : a / b;", "b == 0L ? 0L : Math.floorDiv(a, b);",
        "b == 0L ? 0L : a / b;", "b == 0L ? a : a / b;",
        "b == 0L ? 0L : a / b;", "b == 0L ? 0L : b == -1L ? Math.max(a, -Long.MAX_VALUE) / b : a / b;",
        "case TIMES: return a * b;", "case TIMES: return (int) (a * b);",
        "case PLUS: return a + b;", "case PLUS: return b > 0L && a + b < a ? Long.MAX_VALUE : a + b;",
        "case MINUS: return a - b;", "case MINUS: return b > 0L && a - b > a ? Long.MIN_VALUE : a - b;"})
    static void divisionsAndGoingRound() {
        String book = "thing a 1 0;thing b 1 0;thing c 1 0;set a earns 7 if home=1;set b earns 2 if home=1;set c earns 1 if home=1";
        String half = "32768*32768*32768*32768*4";
        OutOfPawn x = with(book, "like adds/2", "like 7/adds", "like 5/0+0/0", "like " + half + "+" + half,
            "like " + half + "*2/adds", "like " + half + "*2-1");
        due("-7 by 2", x.likes(0, 1, 0, 1, 0), -3);
        due("7 by -2", x.likes(1, 0, 0, 2, 0), -3);
        due("7 by -7", x.likes(1, 1, 0, 1, 0), -1);
        due("7 by 0", x.likes(1, 2, 0, 3, 0), 0);
        due("by 0 and 0 by 0", x.likes(2, 0, 0, 0, 0), 0);
        due("round to the least", x.likes(3, 0, 0, 0, 0), Long.MIN_VALUE);
        due("the least by -1", x.likes(4, 0, 0, 4, 0), Long.MIN_VALUE);
        due("round to the most", x.likes(5, 0, 0, 0, 0), Long.MAX_VALUE);
        due("round by times", sum("99999*99999*99999*99999"), 7762279691451841921L);
        due("what goes round is below 0", with(A + "coin 9", "like " + half + "+" + half).ruled(0, 1), 0);
        due("in a test, too", holds(half + "*2<0"), true);
        due("by 0 in a test", holds("5/0=0 and week/week=0"), true);
    }

    @Edge(promise = 4, says = "Blanks (32) stand between as one likes.", broken = {
        "BLANK = 32;", "BLANK = 9;",
        "if (place >= next && text[place] != BLANK) {", "if (place >= next && text[place] > BLANK) {",
        "if (place >= next && text[place] != BLANK) {", "if (place >= next && text[place] != BLANK && text[place] != 160) {"})
    static void blanks() {
        due("many", with("   thing   a   10   3   lost   5   ;   set   a   earns   2   if   [   1   <=   1   ]   ;   coin   00007   ").count(2), 7);
        OutOfPawn x = with("thing a10 3lost5;set a earns2if[not 1<1and 2*3-1=5];coin7;weeks9");
        due("none but between words", x.count(2), 7);
        due("its set", x.earned(1, 0, 0), 2);
        due("of a rule", with(ALONE, " like  1 + 2 * 3 if 1 = 1 ; keep  5 ").likes(0, 0, 0, 0, 0), 7);
        due("of a rule, none", with(ALONE, "like 1+2*3if 1=1;keep 5").likes(0, 0, 0, 0, 0), 7);
        for (int sign : new int[] {0, 9, 10, 11, 12, 13, 31, 33, 127, 133, 160, 255}) {
            book("coin^" + (char) sign + "5", 0);
            book("coin 5;^" + (char) sign, 0);
            book("^" + (char) sign + "coin 5", 0);
            rule("like^" + (char) sign + "5", 0);
        }
        book("^co in 5", 0);
        book("coin 1 ^2", 0);
        book("needs 1 if 1 > ^= 1", 0);
        book("^coinweeks 5", 0);
        book("^thinga 1 0", 0);
    }

    @Edge(promise = 4, says = "[ and not lie within one another 10 deep at most;", broken = {
        "MOST_DEPTH = 10;", "MOST_DEPTH = 9;",
        "MOST_DEPTH = 10;", "MOST_DEPTH = 11;",
        "readTest(depth + 1);\n                expect(CLOSE);", "readTest(depth);\n                expect(CLOSE);",
        "readFact(depth + 1);\n                code.add(NOT, 0);", "readFact(depth);\n                code.add(NOT, 0);"})
    static void depths() {
        due("10 brackets", holds("[".repeat(10) + "1=1" + "]".repeat(10)), true);
        due("10 nots", holds("not ".repeat(10) + "1=1"), true);
        due("5 of both", holds("not [".repeat(5) + "1=1" + "]".repeat(5)), false);
        due("10, again and again", holds("[".repeat(10) + "1=1" + "]".repeat(10) + " and " + "not ".repeat(10) + "1=1 and [not 1=2]"), true);
        book("needs 1 if " + "[".repeat(10) + "^[1=1" + "]".repeat(11), 2);
        book("needs 1 if " + "not ".repeat(10) + "^not 1=1", 2);
        book("needs 1 if " + "not [".repeat(5) + "^not 1=1" + "]".repeat(5), 2);
        book("needs 1 if " + "[not ".repeat(5) + "^[1=1]" + "]".repeat(5), 2);
        book("needs 1 if 1=1 and " + "[".repeat(10) + "1=1 or ^not 1=1", 2);
        fineRule("like 1 if " + "[".repeat(10) + "1=1" + "]".repeat(10));
        rule("like 1 if " + "[".repeat(10) + "^[1=1", 2);
    }

    @Edge(promise = 4, says = "at most 60 VALUES (of SUMS) and FACTS made of a SIGN, together.", broken = {
        "MOST_PIECES = 60;", "MOST_PIECES = 59;",
        "MOST_PIECES = 60;", "MOST_PIECES = 61;",
        "                pieces++;\n                next();\n            }\n            return sign;", "                next();\n            }\n            return sign;",
        "                pieces++;\n                code.add(kind", "                code.add(kind"})
    static void pieces() {
        due("59 values and a fact", holds("1" + "+1".repeat(57) + "=58"), true);
        book("needs 1 if 1" + "+1".repeat(57) + "=58+^0", 3);
        due("20 facts of two values", holds("1=1" + " and 1=1".repeat(19)), true);
        book("needs 1 if 1=1" + " and 1=1".repeat(19) + " and ^1=1", 3);
        due("not, brackets, and, or are none", holds("not [not [" + "1=1" + " and 1=1".repeat(9) + " or 1=2".repeat(10) + "]]"), true);
        due("60 values of a rule", sum("1" + "+1".repeat(59)), 60);
        rule("like 1" + "+1".repeat(59) + "+^1", 3);
        rule("like 1" + "+1".repeat(58) + " if 1^=1", 3);
        due("a number of another sort is none", with("needs 1 if " + FIFTY_SEVEN + "=57+0;coin 5;luck 7;needs 3").count(2), 5);
        book("needs 1 if " + FIFTY_SEVEN + "=57+0;coin 5;needs 3 if ^1=1", 3);
        rule("like " + FIFTY_SEVEN + ";like 1;like 1;keep 5;like 1;like ^1", 3);
    }

    // ---- faults ----

    @Edge(promise = 4, says = "FAULTS, the first along the text,", broken = {
        "            if (fault == 0) {\n                fault = 1 + 8 * place + sort;", "            if (place >= 0) {\n                fault = 1 + 8 * place + sort;",
        "            if (fault == 0) {\n                fault = 1 + 8 * place + sort;", "            if (fault == 0 || fault % 8 > sort + 1) {\n                fault = 1 + 8 * place + sort;"})
    static void theFirstFault() {
        book("thing a ^0 1000 lost 0;coin", 1);
        book("coin 1;^coin 10000;thing i", 4);
        book(A + "thing ^a 0 1000;", 5);
        book(A + "set ^b earns 10000 if", 5);
        book("needs ^10000 if or and", 1);
        book("needs 1 if ^123456=", 1);
        rule("like 1+^;like 2;keep 10000", 0);
        rule("like ^123456 if coin", 1);
    }

    @Edge(promise = 4, says = "1 + 8 * its place and:", broken = {
        "fault = 1 + 8 * place + sort;", "fault = 8 * place + sort;",
        "fault = 1 + 8 * place + sort;", "fault = 1 + 8 * at + sort;",
        "fault = 1 + 8 * place + sort;", "fault = 1 + 8 * (place + 1) + sort;"})
    static void placeAndKind() {
        due("place 0", Check.book(new OutOfPawn(), "!"), -2 - 1);
        due("place 1, kind 0", Check.book(new OutOfPawn(), " !"), -2 - 9);
        due("place 5, kind 1", Check.book(new OutOfPawn(), "luck 1001"), -2 - 42);
        due("place 8, kind 1, blanks are places", Check.book(new OutOfPawn(), "  luck  1001"), -2 - 66);
        due("place 399", Check.book(new OutOfPawn(), "coin 5" + " ".repeat(393) + "!"), -2 - (1 + 8 * 399));
        due("place 400", Check.book(new OutOfPawn(), "coin 5;" + " ".repeat(393)), -2 - (1 + 8 * 400));
        due("of a rule", Check.rule(new OutOfPawn(), "keep 5;keep 5"), -2 - 61);
    }

    @Edge(promise = 4, says = "0 a byte or WORD that can't stand there, or the end (behind the last byte);", broken = {
        "            add(END, 0, length);", "            add(END, 0, Math.max(0, length - 1));",
        "MISPLACED = 0;", "MISPLACED = 1;",
        "default: return BAD;\n            }", "default: return SEMICOLON;\n            }"})
    static void misplaced() {
        book("coin 5^!", 0);
        book("coin 5^\u00ff", 0);
        book("coin 5^\u0000", 0);
        book("coin 5^,", 0);
        book("coin 5 ^five", 0);
        book("coin ^luck", 0);
        book("coin ^lucky", 0);
        book("^Coin 5", 0);
        book("coin^", 0);
        book("coin  ^", 0);
        book("coin 5;^", 0);
        book("needs 1 if^", 0);
        rule("like 1^!", 0);
        rule("like ^like", 0);
        rule("like 1 +  ^", 0);
        rule("^", 0);
    }

    @Edge(promise = 4, says = "1 a NUMBER of more digits, or not as told;", broken = {
        "WRONG_NUMBER = 1;", "WRONG_NUMBER = 0;",
        "if (kind != NUMBER && kind != LONG_NUMBER) {", "if (kind != NUMBER) {",
        "if (kind == LONG_NUMBER || number < least || number > most) {", "if (kind == LONG_NUMBER || number > most) {"})
    static void wrongNumbers() {
        book("coin ^100000", 1);
        book("coin ^000005", 1);
        book("coin ^10000", 1);
        book("coin ^" + "1".repeat(395), 1);
        book("weeks ^0", 1);
        book("weeks ^00000", 1);
        book("thing a ^0 0", 1);
        book("thing a 1 ^1000 lost 5", 1);
        book("needs 1 if 1=^100000", 1);
        rule("like 1*^100000", 1);
        rule("keep ^10000", 1);
        rule("keep ^999999", 1);
    }

    @Edge(promise = 4, says = "2 too deep (at the sign that opens, or the word not);", broken = {
        "TOO_DEEP = 2;", "TOO_DEEP = 0;",
        "if (depth >= MOST_DEPTH) {\n                fail(TOO_DEEP);\n                return;\n            }\n            next();", "next();\n            if (depth >= MOST_DEPTH) {\n                fail(TOO_DEEP);\n                return;\n            }"})
    static void tooDeep() {
        book("needs 1 if " + "[ ".repeat(10) + "^[", 2);
        book("needs 1 if " + "[ ".repeat(10) + "^not", 2);
        book("needs 1 if " + "not ".repeat(10) + "^not not", 2);
        book("needs 1 if " + "not ".repeat(10) + "^[[", 2);
        book("needs 1 if " + "not ".repeat(10) + "^", 0);
        book("needs 1 if " + "not ".repeat(10) + "^nott", 0);
        rule("like 1 if " + "not[".repeat(5) + "^[", 2);
    }

    @Edge(promise = 4, says = "3 one VALUE or FACT too many (at its first byte; of a FACT at its SIGN);", broken = {
        "PIECE_TOO_MANY = 3;", "PIECE_TOO_MANY = 4;",
        "            } else if (pieces >= MOST_PIECES) {\n                fail(PIECE_TOO_MANY);\n            } else {\n                pieces++;\n                next();", "            } else if (pieces >= MOST_PIECES) {\n                next();\n                fail(PIECE_TOO_MANY);\n            } else {\n                pieces++;\n                next();",
        "            } else if (pieces >= MOST_PIECES) {\n                fail(PIECE_TOO_MANY);\n            } else {\n                pieces++;\n                code", "            } else if (pieces >= MOST_PIECES) {\n                next();\n                fail(PIECE_TOO_MANY);\n            } else {\n                pieces++;\n                code"})
    static void oneTooMany() {
        book("needs 1 if " + FIFTY_SEVEN + "+1=1+  ^12345 =", 3);
        book("needs 1 if " + FIFTY_SEVEN + "+1=1+  ^week =", 3);
        book("needs 1 if " + FIFTY_SEVEN + "+1+1 =  ^1 and", 3);
        book("needs 1 if " + FIFTY_SEVEN + "+1+1+1  ^<=  1", 3);
        book("needs 1 if " + FIFTY_SEVEN + "+1=1 or [not  ^1 = 1", 3);
        rule("like " + FIFTY_SEVEN + "+1+1+1+  ^owed", 3);
        rule("like " + FIFTY_SEVEN + "+1+1 if 1  ^>=  1", 3);
    }

    @Edge(promise = 4, says = "4 one CLAUSE too many, a second one of which there is one at most, or a second EXTRA of its sort (at its first byte);", broken = {
        "CLAUSE_TOO_MANY = 4;", "CLAUSE_TOO_MANY = 3;",
        "            if (tooMany || (told >> clauseKind & 1) != 0) {\n", "            if (tooMany || (told >> clauseKind & 1) != 0) {\n                next();\n",
        "                if ((seen >> sort & 1) != 0) {\n", "                if ((seen >> sort & 1) != 0) {\n                    next();\n"})
    static void aClauseTooMany() {
        String full = "needs 1" + ";needs 1".repeat(23);
        book(full + ";  ^needs", 4);
        book(full + ";  ^thing !", 4);
        book(full + ";  ^set", 4);
        book(full + ";  ^weeks 99999", 4);
        book("coin 1;  ^coin !", 4);
        book("luck 1; needs 1;  ^luck", 4);
        book("cousin 1 till 1;  ^cousin", 4);
        book("weeks 1;  ^weeks 61", 4);
        book("thing a 1 0 lost 1  ^lost 99", 4);
        book("thing a 1 0 sells 1 worth 1  ^sells", 4);
        rule("like 1" + ";like 1".repeat(11) + ";  ^keep", 4);
        rule("keep 1;like 1;  ^keep 99999", 4);
    }

    @Edge(promise = 4, says = "5 a THING told twice, a LETTER of a set that is no THING or is there twice (at the LETTER).", broken = {
        "WRONG_LETTER = 5;", "WRONG_LETTER = 4;",
        "if (!book.has(thing) || (set >> thing & 1) != 0) {\n", "if (!book.has(thing) || (set >> thing & 1) != 0) {\n                    next();\n",
        "if (book.has(thing)) {\n                fail(WRONG_LETTER);", "if (book.has(thing)) {\n                next();\n                fail(WRONG_LETTER);"})
    static void wrongLetters() {
        book(A + "thing  ^a  1 0", 5);
        book(A + "thing  ^a", 5);
        book(A + "set  ^b  earns 1", 5);
        book(A + "set a  ^h  earns 1", 5);
        book(A + "set a  ^a  earns 1", 5);
        book(A + "set  ^b !", 5);
        due("the first letter of the text's first set", Check.book(new OutOfPawn(), "set a earns 1"), -2 - (1 + 8 * 4 + 5));
    }

    @Edge(promise = 4, says = "Of one place the least.", broken = {
        "            if (!isClause()) {\n                fail(MISPLACED);\n                return NONE;\n            }\n            if (tooMany", "            if (tooMany",
        "            if (kind == LONG_NUMBER) {\n                fail(WRONG_NUMBER);\n            } else if", "            if (kind == LONG_NUMBER && pieces >= MOST_PIECES) {\n                fail(PIECE_TOO_MANY);\n            } else if (kind == LONG_NUMBER) {\n                fail(WRONG_NUMBER);\n            } else if",
        "            } else if (kind != NUMBER && !isValueWord()) {\n                fail(MISPLACED);\n            } else if (pieces >= MOST_PIECES) {\n                fail(PIECE_TOO_MANY);", "            } else if (pieces >= MOST_PIECES) {\n                fail(PIECE_TOO_MANY);\n            } else if (kind != NUMBER && !isValueWord()) {\n                fail(MISPLACED);",
        "            if (sign < LESS || sign > MORE) {\n                fail(MISPLACED);\n            } else if (pieces >= MOST_PIECES) {\n                fail(PIECE_TOO_MANY);", "            if (pieces >= MOST_PIECES) {\n                fail(PIECE_TOO_MANY);\n            } else if (sign < LESS || sign > MORE) {\n                fail(MISPLACED);"})
    static void ofOnePlaceTheLeast() {
        String full = "needs 1" + ";needs 1".repeat(23);
        book(full + ";^like 1", 0);
        book(full + ";^!", 0);
        book(full + ";^5", 0);
        book(full + ";^", 0);
        rule("like 1" + ";like 1".repeat(11) + ";^coin 1", 0);
        rule("like 1" + ";like 1".repeat(11) + ";^", 0);
        String most = "needs 1 if " + FIFTY_SEVEN + "+1=1";
        book(most + "+^123456", 1);
        book(most + "+^coin", 0);
        book(most + "+^", 0);
        book(most + "+^!", 0);
        book("needs 1 if " + FIFTY_SEVEN + "+1+1+1 ^]", 0);
        book("needs 1 if " + FIFTY_SEVEN + "+1+1+1^", 0);
        book("coin 5 ^123456", 0);
        book("^123456", 0);
        book("thing ^123456", 0);
    }
}
