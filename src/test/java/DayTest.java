import java.util.NoSuchElementException;

/** Promises 6, 7, 8 and 14: debts, men, elephants as days go by. */
public final class DayTest {
    private static final Probe PROBE = new Probe();

    public static void main(String[] args) {
        askingADebt();
        askingMenAndTusks();
        lending();
        refusing();
        leaning();
        dying();
        paying();
        interest();
        growingOlder();
        dyingByNumbers();
        forgiving();
        going();
        PROBE.end();
    }

    private static int thrownBy(TuskLedger x, int debt, int what) {
        try {
            x.debt(debt, what);
            return 0;
        } catch (IndexOutOfBoundsException e) {
            return 1;
        } catch (NoSuchElementException e) {
            return 2;
        }
    }

    private static void askingADebt() {
        TuskLedger x = PROBE.told("man a 90;man b 7;man c 0;tusk t 30 1;tusk u 50 2;debt c b 9 t 3;debt a c 20 u 1;"
            + "lean u t 2;law pay 0;");
        long[] first = {0, 2, 20, 1, 1, 0, 0, 0};
        for (int what = 0; what < 8; what++) {
            PROBE.due("to come: debt(1, " + what + ")", x.debt(1, what), first[what]);
        }
        x.go(2);
        long[] then = {0, 2, 20, 1, 1, 1, 20, 2};
        for (int what = 0; what < 8; what++) {
            PROBE.due("open: debt(1, " + what + ")", x.debt(1, what), then[what]);
        }
        x.go(1);
        PROBE.due("debt(1, 7)", x.debt(1, 7), 3);
        x.pay(1);
        PROBE.due("paid: debt(1, 5)", x.debt(1, 5), 2);
        PROBE.due("paid: debt(1, 6)", x.debt(1, 6), 0);
        PROBE.due("paid: debt(1, 7)", x.debt(1, 7), 0);
        PROBE.due("debt(2, 0)", thrownBy(x, 2, 0), 1);
        PROBE.due("debt(-1, 0)", thrownBy(x, -1, 0), 1);
        PROBE.due("debt(0, 8)", thrownBy(x, 0, 8), 2);
        PROBE.due("debt(0, -1)", thrownBy(x, 0, -1), 2);
        PROBE.due("debt(2, 8)", thrownBy(x, 2, 8), 1);
        PROBE.due("debt(0, 0) of a new object", thrownBy(new TuskLedger(), 0, 0), 1);
        PROBE.due("debt at the ends of int", thrownBy(x, Integer.MIN_VALUE, Integer.MAX_VALUE), 1);
    }

    private static void askingMenAndTusks() {
        TuskLedger x = PROBE.told("man a 90;man b 7;man c 30;tusk t 30 1;tusk u 50 2;debt a b 9 t 0;debt a c 20 u 0;"
            + "debt c b 5 t 0;lean u t 0;law pay 0;");
        PROBE.due("man(0, 0)", x.man(0, 0), 90);
        PROBE.due("man(0, 1)", x.man(0, 1), 0);
        x.go(1);
        PROBE.due("man(0, 0)", x.man(0, 0), 90 - 9 - 1 - 20 - 2);
        PROBE.due("man(1, 0)", x.man(1, 0), 7 + 9 + 5);
        PROBE.due("man(2, 0)", x.man(2, 0), 30 + 20 - 5 - 1);
        PROBE.due("man(0, 1)", x.man(0, 1), 29);
        PROBE.due("man(1, 1)", x.man(1, 1), -14);
        PROBE.due("man(2, 1)", x.man(2, 1), -15);
        PROBE.due("man(0, 2)", x.man(0, 2), Integer.MIN_VALUE);
        PROBE.due("man(0, -1)", x.man(0, -1), Integer.MIN_VALUE);
        PROBE.due("man(3, 0)", x.man(3, 0), Integer.MIN_VALUE);
        PROBE.due("man(-1, 0)", x.man(-1, 0), Integer.MIN_VALUE);
        long[] t = {30, 1, 1, 7, 5};
        long[] u = {50, 2, 1, 2, 0};
        for (int what = 0; what < 5; what++) {
            PROBE.due("tusk(0, " + what + ")", x.tusk(0, what), t[what]);
            PROBE.due("tusk(1, " + what + ")", x.tusk(1, what), u[what]);
        }
        PROBE.due("tusk(0, 5)", x.tusk(0, 5), -1);
        PROBE.due("tusk(0, -1)", x.tusk(0, -1), -1);
        PROBE.due("tusk(2, 0)", x.tusk(2, 0), -1);
        PROBE.due("tusk(-1, 0)", x.tusk(-1, 0), -1);
    }

    private static void lending() {
        // The purse has just the sum and the buns, and not one less.
        TuskLedger x = PROBE.told("man a 23;man b 0;tusk t 1 3;debt a b 20 t 0;law pay 0;");
        x.go(1);
        PROBE.due("open", x.debt(0, 5), 1);
        PROBE.due("lender", x.man(0, 0), 0);
        PROBE.due("debtor", x.man(1, 0), 20);
        x = PROBE.told("man a 22;man b 0;tusk t 1 3;debt a b 20 t 0;law pay 0;");
        x.go(1);
        PROBE.due("refused", x.debt(0, 5), 4);
        PROBE.due("lender", x.man(0, 0), 22);
        // By numbers: the first debt of the day makes the second one's purse.
        x = PROBE.told("man a 9;man b 0;man c 0;tusk t 1 0;debt a b 9 t 0;debt b c 9 t 0;law pay 0;");
        x.go(1);
        PROBE.due("second by the first", x.debt(1, 5), 1);
        x = PROBE.told("man a 9;man b 0;man c 0;tusk t 1 0;debt b c 9 t 0;debt a b 9 t 0;law pay 0;");
        x.go(1);
        PROBE.due("first without the second", x.debt(0, 5), 4);
    }

    private static void refusing() {
        TuskLedger x = PROBE.told("man a 90;man b 0;tusk t 1 0;debt a b 9 t 3;debt a b 9 t 2;dies t 2;law pay 0;");
        x.go(4);
        PROBE.due("on the day of the death it is lent yet, then forgiven", x.debt(1, 5), 3);
        PROBE.due("behind the death it is refused", x.debt(0, 5), 4);
        PROBE.due("purse", x.man(0, 0), 81);
        PROBE.due("owed", x.debt(0, 6), 0);
        PROBE.due("known", x.debt(0, 7), 0);
    }

    private static void leaning() {
        String head = "man a 90;man b 0;tusk t 1 0;tusk u 1 0;tusk v 1 0;debt a b 9 t 0;debt a b 8 t 0;";
        // By their numbers: u has nothing to pass on before t leaned.
        TuskLedger x = PROBE.told(head + "lean u v 1;lean t u 1;law pay 0;");
        x.go(2);
        PROBE.due("debt(0, 7)", x.debt(0, 7), 3);
        x = PROBE.told(head + "lean t u 1;lean u v 1;law pay 0;");
        x.go(1);
        PROBE.due("debt(0, 7)", x.debt(0, 7), 1);
        x.go(1);
        PROBE.due("debt(0, 7)", x.debt(0, 7), 7);
        x = PROBE.told(head + "lean t u 0;lean t v 1;law pay 0;law pass sum=8;");
        x.go(2);
        PROBE.due("debt(0, 7)", x.debt(0, 7), 1);
        PROBE.due("debt(1, 7)", x.debt(1, 7), 7);
        // known grows as the leanings of one day go on.
        x = PROBE.told(head + "lean t u 1;lean t v 1;law pay 0;law pass known<2;");
        x.go(2);
        PROBE.due("debt(0, 7)", x.debt(0, 7), 3);
        x = PROBE.told(head + "lean t u 2;lean u v 2;dies u 1;law pay 0;");
        x.go(3);
        PROBE.due("one that died isn't leaned on", x.debt(0, 7), 1);
        x = PROBE.told(head + "lean t u 2;dies t 2;law pay 0;");
        x.go(3);
        PROBE.due("leaned ahead of dying on one day", x.debt(0, 7), 2);
    }

    private static void dying() {
        TuskLedger x = PROBE.told("man a 90;man b 0;tusk t 50 0;tusk u 1 0;debt a b 9 t 0;debt a b 8 u 0;"
            + "lean u t 0;dies t 4;law pay 0;");
        x.go(4);
        PROBE.due("tusk(0, 2)", x.tusk(0, 2), 1);
        PROBE.due("tusk(0, 3)", x.tusk(0, 3), 3);
        x.go(1);
        PROBE.due("tusk(0, 2)", x.tusk(0, 2), 0);
        PROBE.due("tusk(0, 3)", x.tusk(0, 3), 0);
        PROBE.due("tusk(0, 0)", x.tusk(0, 0), 50);
        PROBE.due("debt(0, 5)", x.debt(0, 5), 3);
        PROBE.due("debt(1, 5)", x.debt(1, 5), 1);
        x.go(30);
        PROBE.due("a dead one grows no older", x.tusk(0, 0), 50);
    }

    private static void paying() {
        // Without a law: open for 5 days at least.
        TuskLedger x = PROBE.told("man a 90;man b 1;tusk t 50 1;debt a b 9 t 2;");
        x.go(7);
        PROBE.due("day 6 is over", x.debt(0, 5), 1);
        x.go(1);
        PROBE.due("day 7 is over", x.debt(0, 5), 2);
        PROBE.due("lender", x.man(0, 0), 89);
        PROBE.due("debtor", x.man(1, 0), 1);
        // By numbers: what the first pays is in the second one's purse.
        x = PROBE.told("man a 30;man b 30;man c 0;tusk t 1 0;debt b c 9 t 0;debt a b 30 t 0;debt c a 9 t 0;"
            + "debt b c 30 t 1;law pay day>=2;");
        x.go(2);
        PROBE.due("purse of b", x.man(1, 0), 21);
        x.go(1);
        PROBE.due("c pays first", x.debt(0, 5), 2);
        PROBE.due("then b", x.debt(1, 5), 2);
        // Nobody knows it any more on the day of death, but paying comes ahead of forgiving.
        x = PROBE.told("man a 30;man b 0;tusk t 1 0;debt a b 9 t 0;dies t 5;");
        x.go(6);
        PROBE.due("paid on the day of the death", x.debt(0, 5), 2);
        x = PROBE.told("man a 30;man b 0;tusk t 1 0;debt a b 9 t 0;debt b a 1 t 0;law pay sum=9 or day>7;");
        x.go(7);
        PROBE.due("the purse hasn't so much", x.debt(0, 5), 1);
    }

    private static void interest() {
        TuskLedger x = PROBE.told("man a 90;man b 0;tusk t 1 0;debt a b 19 t 9;debt a b 9 t 10;rate 15;law pay 0;");
        x.go(9);
        PROBE.due("to come", x.debt(0, 6), 0);
        x.go(1);
        PROBE.due("19 and 2.85, cut", x.debt(0, 6), 21);
        x.go(10);
        PROBE.due("21 and 3.15, cut", x.debt(0, 6), 24);
        PROBE.due("9 and 1.35, cut", x.debt(1, 6), 10);
        x = PROBE.told("man a 99;man b 0;tusk t 1 0;debt a b 99 t 0;rate 100;law pay 0;");
        x.go(60);
        PROBE.due("99 six times twice", x.debt(0, 6), 6336);
        x.go(10);
        PROBE.due("9999 at most", x.debt(0, 6), 9999);
        x.go(10);
        PROBE.due("9999 at most", x.debt(0, 6), 9999);
        // Paying comes ahead of interest on the same day.
        x = PROBE.told("man a 99;man b 0;tusk t 1 0;debt a b 9 t 4;rate 100;");
        x.go(10);
        PROBE.due("paid without interest", x.debt(0, 5), 2);
    }

    private static void growingOlder() {
        TuskLedger x = PROBE.told("tusk t 1 0;tusk u 98 0;law die 0;");
        x.go(9);
        PROBE.due("tusk(0, 0)", x.tusk(0, 0), 1);
        x.go(1);
        PROBE.due("tusk(0, 0)", x.tusk(0, 0), 2);
        PROBE.due("tusk(1, 0)", x.tusk(1, 0), 99);
        x.go(20);
        PROBE.due("tusk(0, 0)", x.tusk(0, 0), 4);
        PROBE.due("tusk(1, 0)", x.tusk(1, 0), 99);
    }

    private static void dyingByNumbers() {
        // The first numbers behind seed 0 are 0, 21468, 9988: 0, 68, 88 of a hundred.
        TuskLedger x = PROBE.told("tusk t 1 0;tusk u 1 0;tusk v 1 0;law die 68;seed 0;");
        x.go(10);
        PROBE.due("t: 0 is below 68", x.tusk(0, 2), 0);
        PROBE.due("u: 68 isn't", x.tusk(1, 2), 1);
        PROBE.due("v: 88 isn't", x.tusk(2, 2), 1);
        x = PROBE.told("tusk t 1 0;tusk u 1 0;tusk v 1 0;law die 69;");
        x.go(10);
        PROBE.due("u: 68 is below 69", x.tusk(1, 2), 0);
        // No number is drawn of one whose odds are 0 or 100, or beyond.
        x = PROBE.told("tusk t 1 0;tusk u 40 0;tusk v 50 0;tusk w 51 0;law die (age=51)*1+(age>51)*200-(age=2)*7;");
        x.go(10);
        PROBE.due("t: below 0 is 0", x.tusk(0, 2), 1);
        PROBE.due("u: 0", x.tusk(1, 2), 1);
        PROBE.due("v: the first number is 0, below 1", x.tusk(2, 2), 0);
        PROBE.due("w: above 100 is 100", x.tusk(3, 2), 0);
        x = PROBE.told("tusk w 51 0;tusk v 50 0;law die (age=51)*1+(age>51)*100;");
        x.go(10);
        PROBE.due("no number of w, so v has the first one", x.tusk(1, 2), 0);
        // Without a law: age less 60, of the age that it grew to.
        x = PROBE.told("tusk t 60 0;tusk u 59 0;");
        x.go(10);
        PROBE.due("t: 0 is below 1", x.tusk(0, 2), 0);
        PROBE.due("u: 0 of a hundred", x.tusk(1, 2), 1);
        // seed 1: 16838 is 38 of a hundred; the next is 5758.
        x = PROBE.told("tusk t 1 0;seed 1;law die 38;");
        x.go(10);
        PROBE.due("38 isn't below 38", x.tusk(0, 2), 1);
        x = PROBE.told("tusk t 1 0;seed 1;law die 39;");
        x.go(10);
        PROBE.due("38 is below 39", x.tusk(0, 2), 0);
        // The debts that it knows are forgiven on the same day.
        x = PROBE.told("man a 9;man b 0;tusk t 1 0;debt a b 9 t 9;law die known*100;law pay 0;");
        x.go(10);
        PROBE.due("dead by what it knows", x.tusk(0, 2), 0);
        PROBE.due("forgiven", x.debt(0, 5), 3);
    }

    private static void forgiving() {
        TuskLedger x = PROBE.told("man a 90;man b 0;tusk t 1 0;tusk u 1 0;debt a b 9 t 0;lean t u 1;dies t 2;dies u 4;"
            + "law pay 0;");
        x.go(4);
        PROBE.due("u knows it", x.debt(0, 5), 1);
        x.go(1);
        PROBE.due("nobody knows it", x.debt(0, 5), 3);
        PROBE.due("owed", x.debt(0, 6), 0);
        PROBE.due("debtor keeps it", x.man(1, 0), 9);
        PROBE.due("net", x.man(1, 1), 0);
    }

    private static void going() {
        TuskLedger x = new TuskLedger();
        PROBE.due("go(0)", x.go(0), 0);
        PROBE.due("go(-1)", x.go(-1), -1);
        PROBE.due("go(100)", x.go(100), -1);
        for (int i = 1; i <= 100; i++) {
            PROBE.due("go(99) " + i, x.go(99), 99 * i);
        }
        PROBE.due("go(1) behind 9900", x.go(1), -1);
        PROBE.due("go(0) at 9900", x.go(0), 9900);
        PROBE.due("count(4)", x.count(4), 9900);
        PROBE.due("go at the ends of int", x.go(Integer.MAX_VALUE), -1);
        PROBE.due("go at the ends of int", x.go(Integer.MIN_VALUE), -1);
    }
}
