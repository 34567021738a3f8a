/** Promises 10 to 13: lend, lean, pay, gift. */
public final class CallTest {
    private static final Probe PROBE = new Probe();

    public static void main(String[] args) {
        lending();
        lendingRefused();
        leaning();
        paying();
        gifts();
        PROBE.end();
    }

    private static void lending() {
        TuskLedger x = PROBE.told("man a 50;man b 0;tusk t 9 2;tusk u 9 0;debt a b 5 t 9;");
        x.go(3);
        PROBE.due("lend", x.lend(0, 1, 20, 0), 1);
        long[] want = {0, 1, 20, 0, 3, 1, 20, 1};
        for (int what = 0; what < 8; what++) {
            PROBE.due("debt(1, " + what + ")", x.debt(1, what), want[what]);
        }
        PROBE.due("lender", x.man(0, 0), 28);
        PROBE.due("debtor", x.man(1, 0), 20);
        PROBE.due("count(2)", x.count(2), 2);
        PROBE.due("paid on day 8", x.ends(1), 6);
        PROBE.due("lend 99 of 28", x.lend(0, 1, 99, 1), -2);
        PROBE.due("lend what there is", x.lend(0, 1, 28, 1), 2);
        PROBE.due("lend back", x.lend(1, 0, 48, 1), 3);
        PROBE.due("lender", x.man(0, 0), 48);
    }

    private static void lendingRefused() {
        TuskLedger x = PROBE.told("man a 999;man b 3;tusk t 9 1;tusk u 9 0;dies u 0;");
        x.go(1);
        PROBE.due("dead", x.lend(0, 1, 5, 1), -2);
        PROBE.due("buns lack", x.lend(1, 0, 3, 0), -2);
        PROBE.due("nothing is told of it", x.count(2), 0);
        PROBE.due("nothing to undo", x.count(14), 0);
        PROBE.due("alike", x.lend(0, 0, 5, 0), -1);
        PROBE.due("no lender", x.lend(2, 0, 5, 0), -1);
        PROBE.due("no lender", x.lend(-1, 0, 5, 0), -1);
        PROBE.due("no debtor", x.lend(0, 2, 5, 0), -1);
        PROBE.due("no elephant", x.lend(0, 1, 5, 2), -1);
        PROBE.due("no elephant", x.lend(0, 1, 5, -1), -1);
        PROBE.due("sum 0", x.lend(0, 1, 0, 0), -1);
        PROBE.due("sum 100", x.lend(0, 1, 100, 0), -1);
        PROBE.due("NONE goes ahead of -2", x.lend(0, 1, 100, 1), -1);
        for (int i = 0; i < 8; i++) {
            PROBE.due("lend " + i, x.lend(0, 1, 99, 0), i);
        }
        PROBE.due("a ninth", x.lend(0, 1, 1, 0), -1);
        PROBE.due("a ninth before a dead one", x.lend(0, 1, 1, 1), -1);
        x.pay(0);
        PROBE.due("a ninth, though one is paid", x.lend(0, 1, 1, 0), -1);
    }

    private static void leaning() {
        TuskLedger x = PROBE.told("man a 99;man b 0;tusk t 9 0;tusk u 9 0;tusk v 9 0;debt a b 5 t 0;debt a b 6 t 0;"
            + "debt a b 7 u 0;dies v 0;law pass sum<>6;law pay 0;");
        PROBE.due("nothing known yet", x.lean(0, 1), 0);
        x.go(1);
        PROBE.due("lean(0, 1)", x.lean(0, 1), 1);
        PROBE.due("debt(0, 7)", x.debt(0, 7), 3);
        PROBE.due("debt(1, 7)", x.debt(1, 7), 1);
        PROBE.due("lean(0, 1)", x.lean(0, 1), 0);
        PROBE.due("lean(1, 0)", x.lean(1, 0), 1);
        PROBE.due("debt(2, 7)", x.debt(2, 7), 3);
        PROBE.due("tusk(0, 4)", x.tusk(0, 4), 2);
        PROBE.due("alike", x.lean(0, 0), -1);
        PROBE.due("on a dead one", x.lean(0, 2), -1);
        PROBE.due("a dead one", x.lean(2, 0), -1);
        PROBE.due("no such one", x.lean(0, 3), -1);
        PROBE.due("no such one", x.lean(-1, 0), -1);
        PROBE.due("no such one", x.lean(0, 33), -1);
        PROBE.due("no such one", x.lean(33, 0), -1);
    }

    private static void paying() {
        TuskLedger x = PROBE.told("man a 20;man b 0;man c 0;tusk t 9 0;tusk u 9 0;debt a b 5 t 0;debt b c 5 t 1;"
            + "debt b c 5 t 2;lean t u 0;rate 50;law pay 0;");
        PROBE.due("to come", x.pay(0), -2);
        x.go(1);
        PROBE.due("whatever the law: pay(0)", x.pay(0), 5);
        PROBE.due("man(0, 0)", x.man(0, 0), 20);
        PROBE.due("debt(0, 5)", x.debt(0, 5), 2);
        PROBE.due("debt(0, 7)", x.debt(0, 7), 0);
        PROBE.due("again", x.pay(0), -2);
        x.undo();
        x.go(2);
        PROBE.due("the third is refused", x.debt(2, 5), 4);
        PROBE.due("refused", x.pay(2), -2);
        PROBE.due("the purse hasn't so much", x.pay(0), -2);
        PROBE.due("man(2, 0)", x.man(2, 0), 5);
        PROBE.due("pay(1)", x.pay(1), 5);
        PROBE.due("pay(0)", x.pay(0), 5);
        x.back();
        PROBE.due("pay(3)", x.pay(3), -1);
        PROBE.due("pay(-1)", x.pay(-1), -1);
        x = PROBE.told("man a 20;man b 0;tusk t 9 0;debt a b 5 t 0;rate 50;law pay 0;");
        x.go(10);
        PROBE.due("with interest the purse hasn't so much", x.pay(0), -2);
        x.gift(1, 2);
        PROBE.due("with interest", x.pay(0), 7);
        PROBE.due("man(0, 0)", x.man(0, 0), 22);
        PROBE.due("man(1, 0)", x.man(1, 0), 0);
    }

    private static void gifts() {
        TuskLedger x = PROBE.told("man a 20;");
        PROBE.due("gift(0, 1)", x.gift(0, 1), 21);
        PROBE.due("gift(0, 99)", x.gift(0, 99), 120);
        PROBE.due("gift(0, 0)", x.gift(0, 0), -1);
        PROBE.due("gift(0, 100)", x.gift(0, 100), -1);
        PROBE.due("gift(0, -5)", x.gift(0, -5), -1);
        PROBE.due("gift(1, 5)", x.gift(1, 5), -1);
        PROBE.due("gift(-1, 5)", x.gift(-1, 5), -1);
        PROBE.due("man(0, 0)", x.man(0, 0), 120);
        x = PROBE.told("man a 999;man b 999;tusk t 0 0;");
        // 999 and 1000 gifts of 99 are 99999.
        for (int i = 1; i <= 1000; i++) {
            PROBE.due("gift " + i, x.gift(0, 99), 999 + 99 * i);
        }
        PROBE.due("above 99999", x.gift(0, 1), -1);
        PROBE.due("man(0, 0)", x.man(0, 0), 99999);
    }
}
