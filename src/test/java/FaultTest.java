/** The FAULTS of texts: a sign ^ stands ahead of the place at which each is due. */
public final class FaultTest {
    private FaultTest() {
    }

    private static void book(String marked, int kind) {
        Check.bookFault(marked, kind);
    }

    private static void rule(String marked, int kind) {
        Check.ruleFault(marked, kind);
    }

    private static void fine(String text) {
        Check.fineBook(text);
    }

    private static void fineRule(String text) {
        Check.fineRule(text);
    }

    private static void misplaced() {
        book("^", 0);
        book("  ^", 0);
        book("coin 5;^", 0);
        book("coin 5; ^", 0);
        book("coin 5;^;", 0);
        book("^;", 0);
        book("^thin a 1 1", 0);
        book("^things a 1 1", 0);
        book("^Thing a 1 1", 0);
        book("^like 1", 0);
        book("^keep 1", 0);
        book("^5", 0);
        book("^123456", 0);
        book("thing ^thing 1 1", 0);
        book("thing ^1 1", 0);
        book("thing a^", 0);
        book("thing a ^b", 0);
        book("thing a 1^", 0);
        book("thing a 1^;", 0);
        book("thing a 1 1 ^1", 0);
        book("thing a 1 1 ^wins 4", 0);
        book("thing a 1 1 lost^", 0);
        book("thing a 1 1 lost ^lost 1", 0);
        book("thing a 1 1 ^if 1=1", 0);
        book("thing a 1 1 ^\u00e9", 0);
        book("thing a 1 1^\u0000", 0);
        book("thing a 1 1^\t", 0);
        book("set ^5 earns 5", 0);
        book("thing a 1 1;set a ^i earns 5", 0);
        book("thing a 1 1;thing b 1 1;set ^ab earns 5", 0);
        book("thing a 1 1;set a ^5", 0);
        book("thing a 1 1;set a earns^", 0);
        book("thing a 1 1;set a earns ^a", 0);
        book("thing a 1 1;set a earns 5 ^iff 1=1", 0);
        book("needs ^", 0);
        book("needs ^if 1=1", 0);
        book("needs 1 if ^", 0);
        book("needs 1 if 1^", 0);
        book("needs 1 if 1 ^1=1", 0);
        book("needs 1 if 1 < ^= 1", 0);
        book("needs 1 if 1 = ^< 1", 0);
        book("needs 1 if ^coin = 1", 0);
        book("needs 1 if ^worth = 1", 0);
        book("needs 1 if 1 = 1 ^= 1", 0);
        book("needs 1 if 1 + ^- 1 = 1", 0);
        book("needs 1 if ^- 1 = 1", 0);
        book("needs 1 if week ^not = 1", 0);
        book("needs 1 if 1 = ^not 1", 0);
        book("needs 1 if 1 = ^[ 1 ]", 0);
        book("needs 1 if 1 = 1 and ^", 0);
        book("needs 1 if 1 = 1 or ^and 1 = 1", 0);
        book("needs 1 if 1 = 1 ^orr 1 = 1", 0);
        book("needs 1 if [ 1 = 1^", 0);
        book("needs 1 if [ 1 = 1^; coin 1", 0);
        book("needs 1 if 1 = 1 ^]", 0);
        book("needs 1 if 1 = 1 ^a", 0);
        book("needs 1 if not ^", 0);
        book("luck^", 0);
        book("cousin 5 ^5", 0);
        book("cousin 5 till^", 0);
        book("cousin ^till 5", 0);
        book("coin 5 ^if 1 = 1", 0);
        book("weeks 5 ^lost 4", 0);
        rule("^", 0);
        rule("^coin 5", 0);
        rule("like ^", 0);
        rule("like ^;", 0);
        rule("like ^if 1 = 1", 0);
        rule("like owed ^earns", 0);
        rule("like ^thing", 0);
        rule("like 1 ^> 2", 0);
        rule("like 1 if ^", 0);
        rule("like 1;^needs 1", 0);
        rule("keep^", 0);
        rule("keep ^owed", 0);
        rule("keep 1 ^if 1 = 1", 0);
        rule("keep 1 ^+ 1", 0);
    }

    private static void numbers() {
        book("thing a ^0 1", 1);
        book("thing a ^10000 1", 1);
        book("thing a ^000001 1", 1);
        book("thing a 1 ^1000", 1);
        book("thing a 1 1 lost ^0", 1);
        book("thing a 1 1 lost ^61", 1);
        book("thing a 1 1 lends ^10000", 1);
        book("thing a 1 1 sells ^10000", 1);
        book("thing a 1 1 worth ^10000", 1);
        book("thing a 1 1;set a earns ^10000", 1);
        book("needs ^10000", 1);
        book("luck ^1001", 1);
        book("cousin ^10000 till 5", 1);
        book("cousin 1 till ^0", 1);
        book("cousin 1 till ^61", 1);
        book("coin ^10000", 1);
        book("coin ^99999999999999999999", 1);
        book("weeks ^0", 1);
        book("weeks ^61", 1);
        book("needs 1 if ^100000 = 1", 1);
        book("needs 1 if 1 = ^000000", 1);
        rule("keep ^10000", 1);
        rule("like ^123456", 1);
        fine("thing a 9999 999 lost 60 lends 9999 sells 9999 worth 9999;set a earns 9999;needs 9999;luck 1000;cousin 9999 till 60;coin 9999;weeks 60");
        fine("thing h 00001 0 lost 1 lends 0 sells 0 worth 0;set h earns 0;needs 0;luck 0;cousin 0 till 1;coin 0;weeks 1");
        fine("needs 1 if 99999 = 00000");
        fineRule("keep 9999");
        fineRule("like 99999*0;keep 0");
    }

    private static void depths() {
        book("needs 1 if " + "[".repeat(10) + "^[1=1", 2);
        book("needs 1 if " + "not ".repeat(10) + "^not 1=1", 2);
        book("needs 1 if " + "not ".repeat(10) + "^[1=1", 2);
        book("needs 1 if " + "not [".repeat(5) + "^not 1=1", 2);
        rule("like 1 if " + "[not ".repeat(5) + "^[1=1", 2);
        fine("needs 1 if " + "[".repeat(10) + "1=1" + "]".repeat(10));
        fine("needs 1 if " + "not ".repeat(10) + "1=1 and " + "not ".repeat(10) + "1=1");
        fine("needs 1 if " + "[".repeat(10) + "1=1" + "]".repeat(10) + " or " + "[".repeat(10) + "1=1" + "]".repeat(10));
        book("needs 1 if " + "[".repeat(10) + "1=1" + "]".repeat(9) + "^;coin 1", 0);
        book("needs 1 if " + "[".repeat(10) + "1=1" + "]".repeat(10) + "^]", 0);
        book("needs 1 if not[ ^notnot 1=1]", 0);
    }

    private static void pieces() {
        String fiftyEight = "1" + "+1".repeat(57);
        fine("needs 1 if " + fiftyEight + "=1");
        book("needs 1 if " + fiftyEight + "=1+^1", 3);
        book("needs 1 if " + fiftyEight + "+1=^1", 3);
        book("needs 1 if " + fiftyEight + "+1+1 ^= 1", 3);
        book("needs 1 if " + fiftyEight + "+1+1+^1 = 1", 3);
        book("needs 1 if " + fiftyEight + "=1;needs 1 if ^week = 1", 3);
        book("needs 1 if " + fiftyEight + "=1;needs 1 if ^123456 = 1", 1);
        book("needs 1 if " + fiftyEight + "=1;needs 1 if ^coin = 1", 0);
        book("needs 1 if " + fiftyEight + "=1 and [^1=1]", 3);
        fine("needs 1 if " + fiftyEight + "=1;needs 5;coin 7");
        fine("needs 1" + " if 1=1;needs 1".repeat(20));
        book("needs 1" + " if 1=1;needs 1".repeat(20) + " if ^1=1", 3);
        fineRule("like 1" + "*owed".repeat(59));
        rule("like 1" + "*owed".repeat(59) + "*^owed", 3);
        rule("like 1" + "*owed".repeat(59) + ";like ^1", 3);
        rule("like 1" + "*owed".repeat(58) + " if 1 ^= 1", 3);
        fineRule("like 1" + "*owed".repeat(56) + " if 1 = 1");
    }

    private static void clauses() {
        String full = "needs 1" + ";needs 1".repeat(23);
        fine(full);
        book(full + ";^coin 1", 4);
        book(full + "; ^thing a 1 1", 4);
        book(full + ";^", 0);
        book(full + ";^like 1", 0);
        book("coin 1; ^coin", 4);
        book("luck 1;^luck 1001", 4);
        book("cousin 1 till 2;coin 4;^cousin 1 till 2", 4);
        book("weeks 1;^weeks 1", 4);
        book("thing a 1 1 lost 1 ^lost", 4);
        book("thing a 1 1 lends 1 sells 2 ^lends 1", 4);
        book("thing a 1 1 lends 1 sells 2 ^sells 1", 4);
        book("thing a 1 1 worth 1 sells 2 lost 4 lends 3 ^worth 1", 4);
        fine("thing a 1 1 worth 1 sells 2 lost 4 lends 3;thing b 1 1 worth 1");
        String rules = "like 1" + ";like 1".repeat(11);
        fineRule(rules);
        rule(rules + ";^like 1", 4);
        rule(rules + ";^keep 1", 4);
        rule(rules + ";^coin 1", 0);
        rule("keep 1;like 4;^keep", 4);
    }

    private static void letters() {
        book("thing a 1 1;thing ^a", 5);
        book("thing a 1 1;thing b 1 1;thing ^a 1 1", 5);
        book("thing a 1 1;set ^b earns 1", 5);
        book("thing a 1 1;set a ^b earns 1", 5);
        book("thing a 1 1;set a ^a earns 1", 5);
        book("thing a 1 1;set ^b earns 1;thing b 1 1", 5);
        book("set ^a earns 1", 5);
        fine("thing a 1 1;thing b 1 1;thing c 1 1;thing d 1 1;thing e 1 1;thing f 1 1;thing g 1 1;thing h 1 1;"
            + "set h g f e d c b a earns 1");
    }

    /** The longest texts: 400 bytes, and their faults at the last byte and behind it. */
    private static void longest() {
        fine("coin 5" + " ".repeat(394));
        book("coin 5" + " ".repeat(393) + "^]", 0);
        book("coin 5;" + " ".repeat(393) + "^", 0);
        book("^" + "a".repeat(400), 0);
        book("coin ^" + "1".repeat(395), 1);
        book("needs 1 if ^" + ";".repeat(389), 0);
        rule("like ^" + "/".repeat(395), 0);
        book("needs 1 if not not not not not not not not not not ^not" + " not".repeat(83), 2);
    }

    public static void main(String[] args) {
        misplaced();
        numbers();
        depths();
        pieces();
        clauses();
        letters();
        longest();
        Check.finish("FaultTest");
    }
}
