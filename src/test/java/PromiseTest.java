/** Each promise by its number: ordinary inputs, the edges the document names, and wrong inputs. */
public final class PromiseTest {
    private static final String SHOP = "thing a 10 1 worth 30;thing b 4 0 lost 2 sells 3;thing c 5 1;"
        + "set a earns 6;set a c earns 3;coin 14;weeks 4;needs 2";
    private static final String COUSIN = "thing a 10 0;set a earns 4;coin 3;weeks 5;cousin 8 till 4";
    private static final String RESCUE = "thing a 5 0;set a earns 5;needs 2 if week=0;coin 1;cousin 6 till 3;weeks 4";
    private static final String LUCK = "thing a 5 0;set a earns 3;coin 5;weeks 2;luck 500;needs 1";
    private static final String FULL = "needs 1;needs 1;needs 1;needs 1;needs 1;needs 1;needs 1;needs 1;"
        + "needs 1;needs 1;needs 1;needs 1;needs 1;needs 1;needs 1;needs 1;"
        + "needs 1;needs 1;needs 1;needs 1;needs 1;needs 1;needs 1;needs 1";

    private PromiseTest() {
    }

    private static void due(String what, long got, long want) {
        Check.due(what, got, want);
    }

    private static OutOfPawn with(String book, String... rules) {
        return Check.with(book, rules);
    }

    private static void p1NewObject() {
        OutOfPawn x = new OutOfPawn();
        int[] told = {0, 12, 0, 1000, 0, -1, 0, 0, 0, 0, 0};
        for (int what = 0; what < told.length; what++) {
            due("1 count " + what, x.count(what), told[what]);
        }
        due("1 judged bad", x.judged(0), -1);
        due("1 judged broke", x.judged(1), -1);
        due("1 then", x.then(11, 0), 0);
        due("1 then behind", x.then(12, 0), -2);
        due("1 finest", x.finest(), -2);
        due("1 best states", x.best(3), 12);
        due("1 goes", x.goes(0, 0, 1), -1);
        due("1 holds", x.holds(0, 100), 100);
    }

    private static void p2Feed() {
        OutOfPawn x = new OutOfPawn();
        for (int i = 1; i <= 20; i++) {
            due("2 feed", x.feed(0, 0, 0, 0, 0), 20 * i);
        }
        due("2 feed one too many", x.feed(0, 0, 0, 0, 0), -1);
        due("2 nothing came", x.count(10), 400);
        x.end(381);
        due("2 feed over 400", x.feed(0, 0, 0, 0, 0), -1);
        due("2 nothing came either", x.count(10), 381);
        x.end(380);
        due("2 feed to 400", x.feed(0, 0, 0, 0, 0), 400);
        x.end(0);
        // "coin 5;weeks 3" and blanks: the highest byte of each number is the first
        x.feed(0x636f696e, 0x20353b77, 0x65656b73, 0x20332020, 0x20202020);
        due("2 order of bytes", x.book(), 0);
        due("2 coin", x.count(2), 5);
        due("2 weeks", x.count(1), 3);
        // a byte above 127 at the second place
        x.feed(0x20ff0000, 0, 0, 0, 0);
        x.end(2);
        due("2 high byte", x.book(), -2 - 9);
    }

    private static void p3End() {
        OutOfPawn x = new OutOfPawn();
        due("3 end of nothing", x.end(0), 0);
        due("3 end of too many", x.end(1), -1);
        due("3 end below 0", x.end(-1), -1);
        x.feed(0x636f696e, 0x20353b77, 0, 0, 0);
        due("3 not so many", x.end(21), -1);
        due("3 stays", x.count(10), 20);
        due("3 all", x.end(20), 20);
        due("3 fewer", x.end(6), 6);
        due("3 has them", x.count(10), 6);
        due("3 the first ones", x.book(), 0);
        due("3 coin", x.count(2), 5);
    }

    private static void p4Book() {
        OutOfPawn x = with(SHOP);
        due("4 things", x.count(0), 7);
        x.act(0, 0, 0);
        due("4 fault", Check.book(x, "coin 7;thing"), -2 - 97);
        due("4 tape empty", x.count(10), 0);
        due("4 book stays", x.count(2), 14);
        due("4 row stays", x.count(9), 1);
        due("4 another", Check.book(x, "thing h 1 0;thing a 2 0"), 2);
        due("4 its things", x.count(0), 129);
        due("4 row empty", x.count(9), 0);
        due("4 plain weeks", x.count(1), 12);
        due("4 plain coin", x.count(2), 0);
        due("4 no sets", x.count(6), 0);
        due("4 no needs", x.count(7), 0);
        due("4 empty text", Check.book(x, ""), -3);
        due("4 only blanks", Check.book(x, "   "), -2 - 25);
        due("4 full", Check.book(x, FULL), 0);
        due("4 24 needs", x.earned(0, 0, 1), 24);
        due("4 plans are of the new book", x.best(0), -2);
        due("4 blanks as one likes", Check.book(x, "  coin5;weeks   07 ;  thing a10 0lost 5 "), 1);
        due("4 coin", x.count(2), 5);
        due("4 lost", x.thing(0, 2), 5);
    }

    private static void p5Rule() {
        OutOfPawn x = with(SHOP);
        due("5 fault", Check.rule(x, "like"), -2 - 33);
        due("5 none yet", x.count(8), 0);
        due("5 tape empty", x.count(10), 0);
        for (int i = 0; i < 6; i++) {
            due("5 rule", Check.rule(x, "like " + i), i);
        }
        Check.tape(x, "like 6");
        due("5 there are 6", x.rule(), -1);
        due("5 nothing happens", x.count(10), 6);
        due("5 count", x.count(8), 6);
        due("5 the last", x.likes(5, 0, 0, 0, 9), 5);
        Check.tape(x, "like");
        due("5 there are 6, with a fault too", x.rule(), -1);
    }

    private static void p6Thing() {
        OutOfPawn x = with("thing b 9999 999 worth 4 sells 3 lends 2 lost 60;thing a 1 0");
        int[] b = {9999, 999, 60, 2, 3, 4};
        int[] a = {1, 0, -1, 0, 0, 0};
        for (int what = 0; what < 6; what++) {
            due("6 b " + what, x.thing(1, what), b[what]);
            due("6 a " + what, x.thing(0, what), a[what]);
        }
        due("6 what", x.thing(0, 6), -2);
        due("6 what below 0", x.thing(0, -1), -2);
        due("6 no such", x.thing(2, 0), -2);
        due("6 below 0", x.thing(-1, 0), -2);
        due("6 above", x.thing(8, 0), -2);
        due("6 far above", x.thing(33, 0), -2);
        x.act(0, 3, 0);
        due("6 as the book tells", x.thing(0, 0), 1);
    }

    private static void p7Count() {
        OutOfPawn x = with("thing a 1 0;thing c 1 0;weeks 60;coin 9999;luck 0;cousin 9999 till 60;"
            + "set a earns 1;set c earns 1;set a c earns 0;needs 1;needs 2", "like 1");
        x.act(3, 0, 0);
        x.feed(0, 0, 0, 0, 0);
        int[] told = {5, 60, 9999, 0, 9999, 60, 3, 2, 1, 1, 20};
        for (int what = 0; what < told.length; what++) {
            due("7 count " + what, x.count(what), told[what]);
        }
        due("7 others", x.count(11), -2);
        due("7 below 0", x.count(-1), -2);
    }

    private static void p8Owed() {
        OutOfPawn x = with("thing a 10 3 lost 2;thing c 7 0");
        due("8 first", x.owed(0, 0), 10);
        due("8 later", x.owed(0, 5), 25);
        due("8 last week", x.owed(0, 60), 190);
        due("8 behind", x.owed(0, 61), -1);
        due("8 ahead", x.owed(0, -1), -1);
        due("8 runs nothing", x.owed(2, 60), 7);
        due("8 no such", x.owed(1, 0), -1);
        due("8 below 0", x.owed(-1, 0), -1);
        x.act(0, 3, 0);
        due("8 as at first", x.owed(0, 5), 25);
    }

    private static void p9Earned() {
        OutOfPawn x = with("thing a 1 0 lost 1;thing b 1 0;set a earns 5;set a b earns 7 if week > 2;set b earns 11 if home=1 and in=1;"
            + "needs 2;needs 3 if week*2 = 6 or not [ home >= 1 ]");
        due("9 a", x.earned(1, 0, 0), 5);
        due("9 b", x.earned(2, 0, 0), 11);
        due("9 both early", x.earned(3, 2, 0), 5);
        due("9 both late", x.earned(3, 3, 0), 12);
        due("9 week 60", x.earned(3, 60, 0), 12);
        due("9 week 61", x.earned(3, 61, 0), -1);
        due("9 week -1", x.earned(3, -1, 0), -1);
        due("9 others are in though lost", x.earned(2, 5, 0), 11);
        due("9 need of none", x.earned(0, 0, 1), 5);
        due("9 need of a", x.earned(1, 0, 1), 2);
        due("9 need in week 3", x.earned(1, 3, 1), 5);
        due("9 no such things", x.earned(4, 0, 0), -1);
        due("9 below 0", x.earned(-1, 0, 0), -1);
        due("9 what", x.earned(1, 0, 2), -1);
        due("9 what below 0", x.earned(1, 0, -1), -1);
    }

    private static void p10Act() {
        OutOfPawn x = with(SHOP);
        due("10 sort", x.act(0, 5, 0), -1);
        due("10 sort below 0", x.act(0, -1, 0), -1);
        due("10 no such thing", x.act(0, 0, 3), -1);
        due("10 thing below 0", x.act(0, 0, -1), -1);
        due("10 week 61", x.act(61, 0, 0), -1);
        due("10 week -1", x.act(-1, 0, 0), -1);
        due("10 borrow another", x.act(0, 4, 1), -1);
        due("10 none came", x.count(9), 0);
        due("10 borrow", x.act(2, 4, 0), 1);
        due("10 ahead of the last", x.act(1, 0, 0), -1);
        due("10 the same week", x.act(2, 3, 2), 2);
        due("10 week 60", x.act(60, 2, 1), 3);
        for (int i = 4; i <= 60; i++) {
            due("10 more", x.act(60, 1, 0), i);
        }
        due("10 one too many", x.act(60, 1, 0), -1);
        OutOfPawn y = with("thing b 1 0;coin 1");
        due("10 borrow without thing 0", y.act(0, 4, 0), 1);
    }

    private static void p11Row() {
        OutOfPawn x = with(SHOP);
        x.act(0, 0, 0);
        x.act(1, 0, 2);
        Check.due("11 too many", x.row(3), false);
        Check.due("11 below 0", x.row(-1), false);
        due("11 nothing happens", x.count(9), 2);
        Check.due("11 all", x.row(2), true);
        Check.due("11 the first", x.row(1), true);
        due("11 has it", x.count(9), 1);
        due("11 earlier again", x.act(0, 0, 2), 2);
        Check.due("11 none", x.row(0), true);
        Check.due("11 none more", x.row(1), false);
    }

    private static void p12Judged() {
        OutOfPawn x = with(SHOP);
        due("12 nothing done, coin", x.judged(2), 6);
        due("12 nothing done, gone", x.judged(4), 2);
        x.act(0, 0, 0);
        x.act(1, 0, 2);
        due("12 coin", x.judged(2), 23);
        due("12 home", x.judged(3), 5);
        x.act(2, 0, 1);
        due("12 lost by then", x.judged(0), 2);
        due("12 gone", x.judged(4), 2);
        due("12 stops there", x.judged(2), 9);
        due("12 others", x.judged(5), -2);
        due("12 below 0", x.judged(-1), -2);
        x.row(0);
        x.act(0, 0, 0);
        x.act(0, 0, 0);
        due("12 home already", x.judged(0), 1);
        x.row(1);
        x.act(0, 0, 2);
        due("12 coin not enough", x.judged(0), 1);
    }

    private static void p12PutSellHalve() {
        OutOfPawn x = with("thing a 11 3 lends 6 lost 5;thing b 5 0 sells 9;coin 40;weeks 8");
        x.act(1, 3, 0);
        due("12 half upwards of 14", x.judged(2), 33);
        x.act(3, 0, 0);
        due("12 rest 7 and 1 a week", x.judged(2), 24);
        x.act(3, 1, 0);
        due("12 put: lent again", x.judged(2), 30);
        x.act(4, 3, 0);
        due("12 halved again once it was home: 9, 5", x.judged(2), 25);
        x.act(4, 3, 0);
        due("12 halved twice", x.judged(0), 4);
        x.row(4);
        x.act(5, 0, 0);
        due("12 lost while in", x.judged(0), 4);
        due("12 gone", x.judged(4), 1);
        x.row(2);
        x.act(6, 1, 0);
        due("12 home is never lost", x.judged(0), -1);
        due("12 but in again it is", x.judged(4), 1);
        x.act(6, 0, 0);
        due("12 in its week it can be fetched", x.judged(0), -1);
        due("12 coin then", x.judged(2), 24);
        x.row(0);
        x.act(0, 1, 0);
        due("12 put what is in", x.judged(0), 0);
        x.row(0);
        x.act(0, 2, 1);
        x.act(0, 2, 1);
        due("12 sold once", x.judged(0), 1);
        due("12 sold", x.judged(2), 49);
        x.row(1);
        x.act(1, 0, 1);
        due("12 sold is gone", x.judged(0), 1);
        x.row(0);
        x.act(0, 0, 1);
        x.act(0, 2, 1);
        due("12 home can't be sold", x.judged(0), 1);
        x.row(1);
        x.act(0, 3, 1);
        due("12 home can't be halved", x.judged(0), 1);
        x.row(1);
        x.act(0, 1, 1);
        due("12 lent nothing", x.judged(2), 35);
        x.act(7, 0, 1);
        due("12 owes nothing", x.judged(2), 35);
    }

    private static void p12Broke() {
        OutOfPawn x = with("coin 3;needs 2;weeks 3");
        due("12 broke in", x.judged(1), 1);
        due("12 bad act", x.judged(0), -1);
        due("12 coin stays", x.judged(2), 1);
        x.act(2, 4, 0);
        due("12 broke ahead of it", x.judged(0), -1);
        OutOfPawn y = with("thing a 3 0;set a earns 4;needs 9;coin 5");
        y.act(0, 0, 0);
        due("12 earned is had", y.judged(2), 6);
        due("12 broke at once", y.judged(1), 0);
        due("12 home when broke", y.judged(3), 1);
        OutOfPawn z = with("thing a 9 0;coin 5;cousin 4 till 3;weeks 4");
        z.act(2, 4, 0);
        z.act(2, 0, 0);
        due("12 can't pay back", z.judged(1), 3);
        due("12 coin stays ahead of that", z.judged(2), 0);
        z.row(1);
        due("12 pays back", z.judged(2), 5);
        z.act(2, 4, 0);
        due("12 lends once", z.judged(0), 1);
        z.row(0);
        z.act(3, 4, 0);
        due("12 in his week", z.judged(0), 0);
        OutOfPawn w = with("coin 5;cousin 4 till 4;weeks 4");
        w.act(0, 4, 0);
        due("12 his week is none of the book's", w.judged(0), 0);
        OutOfPawn v = with("coin 5;needs 1;weeks 3");
        v.act(3, 4, 0);
        due("12 act behind the last week", v.judged(0), 0);
        due("12 all done till then", v.judged(2), 2);
    }

    private static void p13Then() {
        OutOfPawn x = with(SHOP);
        x.act(0, 0, 0);
        x.act(2, 0, 2);
        due("13 coin 0", x.then(0, 0), 8);
        due("13 home 0", x.then(0, 1), 1);
        due("13 coin 1", x.then(1, 0), 12);
        due("13 home 2", x.then(2, 1), 5);
        due("13 coin 3", x.then(3, 0), 19);
        due("13 week 4", x.then(4, 0), -2);
        due("13 week -1", x.then(-1, 0), -2);
        due("13 what", x.then(0, 2), -2);
        due("13 what below 0", x.then(0, -1), -2);
        x.act(4, 0, 1);
        due("13 an act behind the last week", x.then(3, 0), 19);
        x.row(1);
        x.act(1, 0, 0);
        due("13 ahead of what can't be", x.then(0, 0), 8);
        due("13 does not come so far", x.then(1, 0), -2);
        OutOfPawn y = with("coin 3;needs 2;weeks 3");
        due("13 not broke yet", y.then(0, 0), 1);
        due("13 broke", y.then(1, 0), -2);
    }

    private static void p14Soon() {
        due("14 soon", with(SHOP).soon(), 2);
        due("14 at once", with("thing a 3 0;coin 3").soon(), 0);
        due("14 never", with("thing a 3 0;coin 2").soon(), -1);
        due("14 lost", with("thing a 3 0 lost 1;thing b 1 0;set b earns 1;coin 2").soon(), -1);
        due("14 broke in week 0", with("needs 1").soon(), -1);
        due("14 broke later", with("needs 1;coin 1").soon(), 0);
        due("14 last week", with("thing a 3 0;thing b 1 0;set b earns 1;coin 1;weeks 4").soon(), 3);
        due("14 too few weeks", with("thing a 3 0;thing b 1 0;set b earns 1;coin 1;weeks 3").soon(), -1);
    }

    private static void p15Best() {
        OutOfPawn x = with(SHOP);
        int[] told = {23, 5, 53, 27, 0, 2};
        for (int what = 0; what < told.length; what++) {
            due("15 best " + what, x.best(what), told[what]);
        }
        due("15 others", x.best(6), -3);
        due("15 below 0", x.best(-1), -3);
        OutOfPawn y = with("thing a 2 0;thing b 5 0;needs 1;coin 3;weeks 4");
        due("15 no plan 0", y.best(0), -2);
        due("15 no plan 1", y.best(1), -2);
        due("15 no plan 2", y.best(2), -2);
        due("15 no plan, states", y.best(3), 4);
        due("15 no plan, never", y.best(4), 2);
        due("15 no plan 5", y.best(5), -2);
        due("15 no plan, others", y.best(6), -3);
        OutOfPawn z = with("thing a 2 0;thing b 2 0;set a earns 1;set b earns 1;coin 3;weeks 2");
        due("15 several: best", z.best(0), 3);
        due("15 several: the least as a number", z.best(1), 0);
        due("15 let", z.best(5), 3);
        OutOfPawn w = with("thing a 2 0;thing b 2 0;set a earns 1;set b earns 1;coin 3;weeks 3");
        due("15 one of two: the least", w.best(1), 1);
        OutOfPawn v = with("thing a 5 0;thing b 5 0;set a earns 3;set b earns 3;coin 5;weeks 2");
        due("15 a is less than b", v.best(1), 1);
        due("15 the richest may end elsewhere", with("thing a 5 0 worth 6;coin 5").best(2), 6);
    }

    private static void p16Fetched() {
        OutOfPawn x = with(SHOP);
        due("16 a", x.fetched(0), 0);
        due("16 b", x.fetched(1), -1);
        due("16 c", x.fetched(2), 1);
        due("16 no such", x.fetched(3), -3);
        due("16 below 0", x.fetched(-1), -3);
        due("16 above", x.fetched(8), -3);
        OutOfPawn y = with("thing a 1 0;needs 1;coin 3;weeks 4");
        due("16 no plan", y.fetched(0), -2);
        due("16 no plan, no such", y.fetched(1), -3);
        OutOfPawn z = with("thing a 4 0;set a earns 5 if week=3;coin 4;weeks 4");
        due("16 as late as it may: the least set ahead", z.fetched(0), 3);
    }

    private static void p17Hangs() {
        OutOfPawn x = with(SHOP);
        due("17 a", x.hangs(0), 17);
        due("17 b", x.hangs(1), 0);
        due("17 c", x.hangs(2), 3);
        due("17 no such", x.hangs(3), -1);
        due("17 below 0", x.hangs(-1), -1);
        due("17 no plan", with("thing a 1 0;needs 1;coin 3;weeks 4").hangs(0), -2);
        due("17 no plan without it", with("thing a 1 0;set a earns 3;needs 2;coin 3;weeks 4").hangs(0), 6);
        due("17 gone is not in", with("thing a 9 0;needs 1 if in>0;coin 4;weeks 4").hangs(0), -4);
    }

    private static void p18Key() {
        due("18 a", with(SHOP).key(), 0);
        due("18 no thing", with("coin 5").key(), -2);
        due("18 no plan", with("thing a 1 0;needs 1;coin 3;weeks 4").key(), -2);
        due("18 least loan", with("thing a 4 0;thing b 3 0").key(), 1);
        due("18 the least", with("thing c 3 0;thing b 3 0;thing a 4 0").key(), 1);
        due("18 most", with("thing a 1 0;thing b 3 0;set b earns 9;coin 3").key(), 1);
        due("18 the least of what is below 0", with("thing a 9 0;thing b 8 0;needs 1 if in>0;coin 60;weeks 2").key(), 1);
    }

    private static void p19Wise() {
        OutOfPawn x = with(SHOP);
        due("19 a", x.wise(0), 0);
        due("19 c", x.wise(2), 22);
        due("19 no such", x.wise(3), -2000000);
        due("19 below 0", x.wise(-1), -2000000);
        due("19 coin below 0", with("thing a 9 0;coin 8").wise(0), -1000000);
        due("19 coin just enough", with("thing a 8 0;coin 8").wise(0), 8);
        due("19 no plan as it is", with("thing a 8 0;needs 9;coin 8").wise(0), -1000000);
        due("19 no plan so", with("thing a 8 0;needs 1;weeks 8;coin 8").wise(0), -1000000);
        due("19 never lost", with("thing a 8 5 lost 1;set a earns 2;weeks 9;coin 8").wise(0), 0);
        due("19 never run", with("thing a 8 5 lost 3;thing b 3 0;set a b earns 2;weeks 9;coin 11").wise(0), 0);
    }

    private static void p20Borrowed() {
        OutOfPawn x = with(COUSIN);
        due("20 week 0", x.borrowed(0), 13);
        due("20 week 1", x.borrowed(1), 9);
        due("20 week 3", x.borrowed(3), 3);
        due("20 his week", x.borrowed(4), -2);
        due("20 none of the book's", x.borrowed(5), -1);
        due("20 below 0", x.borrowed(-1), -1);
        due("20 no cousin", with(SHOP).borrowed(0), -2);
        due("20 his week is none", with("coin 4;cousin 2 till 3;weeks 3").borrowed(0), -2);
        due("20 no plan so", with("needs 1;coin 3;cousin 2 till 3;weeks 4").borrowed(0), -2);
        due("20 can't pay back", with("needs 4 if week=1;coin 3;cousin 4 till 3;weeks 4").borrowed(0), -2);
        due("20 a plan only so", with(RESCUE).borrowed(0), 14);
    }

    private static void p21When() {
        due("21 week 0", with(COUSIN).when(), 0);
        due("21 no cousin", with(SHOP).when(), -2);
        due("21 no better", with("coin 5;cousin 4 till 3;weeks 4").when(), -2);
        due("21 his week is none", with("thing a 5 0;set a earns 5;cousin 5 till 4;weeks 4").when(), -2);
        due("21 the first of several", with("thing a 5 0;set a earns 9 if week=2;cousin 5 till 3;weeks 4").when(), 0);
        due("21 a plan only so: above no best", with(RESCUE).when(), 0);
    }

    private static void p22Sold() {
        OutOfPawn x = with(SHOP);
        due("22 week 0", x.sold(1, 0), 30);
        due("22 week 1", x.sold(1, 1), 26);
        due("22 gone by then", x.sold(1, 2), -2);
        due("22 sells for nothing", x.sold(0, 0), 6);
        due("22 week 4", x.sold(0, 4), -1);
        due("22 week -1", x.sold(0, -1), -1);
        due("22 no such", x.sold(3, 0), -1);
        due("22 below 0", x.sold(-1, 0), -1);
        due("22 no plan so", with("thing a 1 0;set a earns 3;needs 2;coin 3;weeks 4").sold(0, 0), -2);
        due("22 a plan only so", with("thing a 9 0 sells 5;needs 1;coin 1;weeks 4").sold(0, 1), 2);
        due("22 in till then", with("thing a 9 0 sells 5;needs 1 if in=1;coin 4;weeks 4").sold(0, 2), 7);
    }

    private static void p23Selling() {
        OutOfPawn x = with(SHOP);
        due("23 b", x.selling(1), 0);
        due("23 a", x.selling(0), -2);
        due("23 no such", x.selling(3), -1);
        due("23 below 0", x.selling(-1), -1);
        due("23 not above", with("thing a 9 0;coin 4").selling(0), -2);
        due("23 the first of several", with("thing a 9 0 sells 1;coin 4").selling(0), 0);
        due("23 the best week", with("thing a 9 0 sells 5;thing b 1 0;set b earns 4 if in=1;coin 1;weeks 6").selling(0), 5);
    }

    private static void p24Likes() {
        OutOfPawn x = with("thing a 10 2 worth 30 lost 3;thing b 4 0;thing c 5 1;set a b earns 6 if in=1;coin 14;weeks 4",
            "like 1 - owed", "like 10*owed+runs if week=2;like left*100+adds if worth=30;like coin-home*10-in",
            "like 7/0+9/2*2-0-1", "like 99999*99999*99999*99999", "keep 5", "like adds");
        due("24 below 0", x.likes(0, 0, 0, 0, 0), -9);
        due("24 owed as at first", x.likes(1, 0, 2, 0, 0), 142);
        due("24 second clause", x.likes(1, 0, 1, 2, 0), 206);
        due("24 never lost, third", x.likes(1, 1, 1, 1, 500), 488);
        due("24 by 0, towards 0", x.likes(2, 1, 0, 0, 0), 7);
        due("24 goes round", x.likes(3, 1, 0, 0, 0), 99999L * 99999L * 99999L * 99999L);
        due("24 none without", x.likes(4, 1, 0, 0, 0), 0);
        due("24 adds", x.likes(5, 1, 0, 1, 0), 6);
        due("24 adds nothing", x.likes(5, 1, 0, 0, 0), 0);
        due("24 of the set", x.likes(0, 0, 0, 1, 0), 0);
        due("24 no rule", x.likes(6, 0, 0, 0, 0), 0);
        due("24 rule below 0", x.likes(-1, 0, 0, 0, 0), 0);
        due("24 no thing", x.likes(0, 3, 0, 0, 0), 0);
        due("24 no set", x.likes(0, 0, 0, 8, 0), 0);
        due("24 week 3", x.likes(0, 0, 3, 0, 0), -15);
        due("24 week 4", x.likes(0, 0, 4, 0, 0), 0);
        due("24 week -1", x.likes(0, 0, -1, 0, 0), 0);
        due("24 coin 99999", x.likes(1, 1, 0, 0, 99999), 99999 - 3);
        due("24 coin 100000", x.likes(1, 1, 0, 0, 100000), 0);
        due("24 coin -1", x.likes(1, 1, 0, 0, -1), 0);
        OutOfPawn y = with("thing a 1 0", "like 9223/1*0-7/2", "like 0-7*5/10");
        due("24 towards 0", y.likes(0, 0, 0, 0, 0), -3);
        due("24 from the left", y.likes(1, 0, 0, 0, 0), -3);
    }

    private static void p25Ruled() {
        OutOfPawn x = with(SHOP, "like 99 - owed", "like adds", "like 5;keep 8");
        int[][] told = {{1, 6, 2, -1000000}, {23, 5, -1, 0}, {2, 2, -1, 21}};
        for (int rule = 0; rule < 3; rule++) {
            for (int what = 0; what < 4; what++) {
                due("25 ruled " + rule + " " + what, x.ruled(rule, what), told[rule][what]);
            }
            due("25 what", x.ruled(rule, 4), -2);
        }
        due("25 what below 0", x.ruled(0, -1), -2);
        due("25 no such", x.ruled(3, 0), -2);
        due("25 below 0", x.ruled(-1, 0), -2);
        OutOfPawn y = with("thing a 5 0;thing b 5 0;thing c 5 0;coin 10;weeks 1", "like 3", "like 1 if home=0;like 0", "keep 1",
            "like coin-9", "like 3;keep 5", "like 3;keep 6");
        due("25 the least of several", y.ruled(0, 1), 3);
        due("25 again and again, as things stand", y.ruled(1, 1), 1);
        due("25 likes nothing", y.ruled(2, 1), 0);
        due("25 coin as it is", y.ruled(3, 1), 1);
        due("25 keeps", y.ruled(4, 1), 1);
        due("25 keeps more", y.ruled(5, 1), 0);
        OutOfPawn z = with("thing a 5 0;needs 4;coin 5;weeks 2", "like 1");
        due("25 broke", z.ruled(0, 2), 0);
        due("25 no best", z.ruled(0, 3), -1000000);
    }

    private static void p26Finest() {
        OutOfPawn x = with(SHOP, "like 99 - owed", "like adds", "like 5;keep 8", "like adds*2");
        due("26 the least of several", x.finest(), 1);
        due("26 none", with(SHOP).finest(), -2);
        due("26 all broke", with("needs 1", "like 1").finest(), -2);
        due("26 not a broke one", with("thing a 4 0;thing b 3 0;set b earns 1;needs 3 if week=1;coin 9;weeks 2", "like 0", "like 1").finest(), 0);
    }

    private static void p27Parts() {
        OutOfPawn x = with(SHOP, "like 99 - owed", "like adds", "like 5;keep 8", "like adds + 0");
        due("27 three", x.parts(0, 1), 3);
        due("27 the other way", x.parts(1, 0), 3);
        due("27 none", x.parts(1, 3), 0);
        due("27 the same rule", x.parts(2, 2), -1);
        due("27 no such", x.parts(0, 4), -1);
        due("27 below 0", x.parts(-1, 0), -1);
        OutOfPawn y = with("thing a 4 0;thing b 4 0;coin 9;weeks 3", "like 1 if week=0", "like 1 if week=2;keep 4");
        due("27 another week, or not at all", y.parts(0, 1), 2);
    }

    private static void p28Holds() {
        OutOfPawn x = with(LUCK);
        x.act(0, 0, 0);
        due("28 once", x.holds(0, 1), 1);
        due("28 the seed goes on", x.holds(0, 2), 1);
        due("28 seed below 0", x.holds(-1, 1), -1);
        due("28 none", x.holds(0, 0), -1);
        due("28 too many", x.holds(0, 101), -1);
        long seed = 2147483647L;
        int holds = 0;
        for (int i = 0; i < 100; i++) {
            seed = (seed * 1103515245L + 12345L) & 2147483647L;
            holds += seed / 65536 % 1000 < 500 ? 1 : 0;
            seed = (seed * 1103515245L + 12345L) & 2147483647L;
        }
        due("28 a hundred times", x.holds(2147483647, 100), holds);
        due("28 always work", with(SHOP).holds(3, 7), 7);
        OutOfPawn y = with("thing a 5 0;luck 0");
        due("28 nothing to do", y.holds(0, 100), 100);
        y.act(0, 0, 0);
        due("28 can't be", y.holds(0, 100), 0);
        y.row(0);
        y.act(12, 3, 0);
        due("28 not to its end", y.holds(0, 5), 0);
    }

    private static void p29Goes() {
        OutOfPawn x = with(LUCK, "like adds", "like 0");
        due("29 once", x.goes(0, 0, 1), 1);
        due("29 broke is not at the end", x.goes(0, 0, 2), 1);
        due("29 fetches nothing", x.goes(1, 0, 100), 0);
        due("29 no such", x.goes(2, 0, 1), -1);
        due("29 below 0", x.goes(-1, 0, 1), -1);
        due("29 none", x.goes(0, 0, 0), -1);
        due("29 too many", x.goes(0, 0, 101), -1);
        due("29 seed below 0", x.goes(0, -1, 1), -1);
        due("29 a hundred", with("thing a 5 0;coin 5;luck 0", "like 1").goes(0, 9, 100), 100);
        due("29 not all", with("thing a 5 0;thing b 1 0 lost 1;coin 5", "like owed").goes(0, 9, 100), 0);
    }

    private static void p30Surely() {
        OutOfPawn x = with(LUCK);
        due("30 never without it", x.surely(), 1000000000);
        x.act(0, 0, 0);
        due("30 half", x.surely(), 500000000);
        due("30 11 weeks", with("weeks 11").surely(), -1);
        due("30 10 weeks", with("weeks 10").surely(), 1000000000);
        due("30 never work", with("weeks 3;luck 0").surely(), 1000000000);
        // 333 of 1000 in each of three weeks, downwards week by week
        due("30 downwards", with("weeks 3;luck 333;coin 9").surely(), sureOf(333, 3));
        due("30 broke", with("weeks 3;needs 1;coin 2").surely(), 0);
        OutOfPawn y = with("weeks 3;coin 2");
        y.act(3, 4, 0);
        due("30 can't be", y.surely(), 0);
    }

    private static long sureOf(int luck, int weeks) {
        long all = 0;
        for (int bits = 0; bits < 1 << weeks; bits++) {
            long chance = 1000000000;
            for (int week = 0; week < weeks; week++) {
                chance = chance * ((bits >> week & 1) == 1 ? luck : 1000 - luck) / 1000;
            }
            all += chance;
        }
        return all;
    }

    private static void p31Most() {
        OutOfPawn x = with(SHOP);
        due("31 none", x.most(0, 0), 0);
        due("31 one", x.most(0, 1), 1);
        due("31 two", x.most(0, 2), 5);
        due("31 all", x.most(60, 3), 7);
        due("31 no so many", x.most(0, 4), -1);
        due("31 below 0", x.most(0, -1), -1);
        due("31 week 61", x.most(61, 1), -1);
        due("31 week -1", x.most(-1, 1), -1);
        due("31 the least of several", with("thing b 1 0;thing d 1 0").most(0, 1), 2);
        due("31 by the week", with("thing b 1 0;thing d 1 0;set d earns 1 if week=60").most(60, 1), 8);
        due("31 nine", with("thing b 1 0").most(0, 9), -1);
    }

    private static void p32Needed() {
        OutOfPawn x = with(SHOP);
        due("32 all", x.needed(0, 0), 19);
        due("32 week 1", x.needed(0, 1), 21);
        due("32 lost by then", x.needed(0, 2), -2);
        due("32 that one is home", x.needed(2, 2), 19);
        due("32 none", x.needed(7, 60), 0);
        due("32 week 61", x.needed(7, 61), -1);
        due("32 week -1", x.needed(7, -1), -1);
        due("32 no such set", x.needed(8, 0), -1);
        due("32 below 0", x.needed(-1, 0), -1);
    }

    private static void p33Pays() {
        OutOfPawn x = with(SHOP);
        due("33 a", x.pays(0, 1, 0), 2);
        due("33 c with a", x.pays(2, 5, 0), 2);
        due("33 a with c", x.pays(0, 5, 0), 2);
        due("33 later it owes more", x.pays(0, 1, 9), 4);
        due("33 never", x.pays(1, 2, 0), -2);
        due("33 not of the set", x.pays(0, 0, 0), -1);
        due("33 no such", x.pays(3, 8, 0), -1);
        due("33 no such set", x.pays(0, 9, 0), -1);
        due("33 week 61", x.pays(0, 1, 61), -1);
        due("33 week -1", x.pays(0, 1, -1), -1);
        due("33 200 weeks", with("thing a 200 0;set a earns 1").pays(0, 1, 60), 200);
        due("33 201 weeks", with("thing a 201 0;set a earns 1").pays(0, 1, 0), -2);
        due("33 one at least", with("thing a 1 0;set a earns 9").pays(0, 1, 0), 1);
        due("33 what it adds", with("thing a 5 0;thing b 1 0;set b earns 4 if in=1;set a earns 5").pays(0, 3, 0), 5);
    }

    private static void p34p35Images() {
        OutOfPawn x = new OutOfPawn();
        due("35 never made", x.back(0), -1);
        due("34 of nothing", x.image(3), 0);
        due("34 another", x.image(4), -1);
        due("34 below 0", x.image(-1), -1);
        due("35 another", x.back(4), -1);
        due("35 below 0", x.back(-1), -1);
        Check.book(x, SHOP);
        x.act(0, 0, 0);
        x.act(1, 0, 2);
        due("34 two acts", x.image(0), 2);
        due("15 best", x.best(0), 23);
        Check.rule(x, "like 1");
        Check.book(x, COUSIN);
        due("15 best of another", x.best(0), 3);
        x.act(0, 4, 0);
        due("34 one act", x.image(1), 1);
        x.feed(0, 0, 0, 0, 0);
        due("35 back", x.back(0), 2);
        due("35 the tape stays", x.count(10), 20);
        due("35 things", x.count(0), 7);
        due("35 the row", x.judged(2), 23);
        due("35 plans too", x.best(0), 23);
        due("35 tests too", x.earned(5, 0, 0), 9);
        due("35 rules stay", x.count(8), 1);
        due("35 never made still", x.back(2), -1);
        due("35 nothing happens", x.count(9), 2);
        x.row(0);
        due("35 the image keeps", x.back(0), 2);
        due("35 the first", x.back(3), 0);
        due("35 no things", x.count(0), 0);
        due("35 plain weeks", x.count(1), 12);
        due("35 another one", x.back(1), 1);
        due("35 its cousin", x.count(4), 8);
        due("35 its plans", x.best(0), 3);
        due("34 again in its place", x.image(0), 1);
        x.back(3);
        due("35 as made last", x.back(0), 1);
        due("35 its things", x.count(0), 1);
    }

    public static void main(String[] args) {
        p1NewObject();
        p2Feed();
        p3End();
        p4Book();
        p5Rule();
        p6Thing();
        p7Count();
        p8Owed();
        p9Earned();
        p10Act();
        p11Row();
        p12Judged();
        p12PutSellHalve();
        p12Broke();
        p13Then();
        p14Soon();
        p15Best();
        p16Fetched();
        p17Hangs();
        p18Key();
        p19Wise();
        p20Borrowed();
        p21When();
        p22Sold();
        p23Selling();
        p24Likes();
        p25Ruled();
        p26Finest();
        p27Parts();
        p28Holds();
        p29Goes();
        p30Surely();
        p31Most();
        p32Needed();
        p33Pays();
        p34p35Images();
        due("NONE", OutOfPawn.NONE, -1);
        Check.finish("PromiseTest");
    }
}
