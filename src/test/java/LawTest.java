/** Promise 9 and what an E is worth: its names, its signs, its errors, and what holds in place of an error. */
public final class LawTest {
    private static final Probe PROBE = new Probe();
    private static final long ERROR = Long.MIN_VALUE;

    public static void main(String[] args) {
        values();
        errors();
        namesOfPass();
        namesOfPay();
        namesOfDie();
        noSuchOnes();
        inPlaceOfAnError();
        PROBE.end();
    }

    private static void value(String e, long want) {
        TuskLedger x = PROBE.told("tusk t 40 0;law die " + e + ";");
        PROBE.due("E " + e, x.law(2, 0, 0), want);
    }

    private static void values() {
        value("7", 7);
        value("1+2*3", 7);
        value("(1+2)*3", 9);
        value("9-3-2", 4);
        value("8/2/2", 2);
        value("7/2", 3);
        value("(0-7)/2", -3);
        value("7/(0-2)", -3);
        value("2*3/4", 1);
        value("2<3", 1);
        value("3<3", 0);
        value("3<=3", 1);
        value("3=3", 1);
        value("3<>3", 0);
        value("3>=4", 0);
        value("4>3", 1);
        value("1+1<3", 1);
        value("not 0", 1);
        value("not 5", 0);
        value("not not 5", 1);
        value("not 1=2", 1);
        value("2 and 3", 1);
        value("2 and 0", 0);
        value("0 or 9", 1);
        value("0 or 0", 0);
        value("1 or 0 and 0", 1);
        value("not 1 or 1", 1);
        value("not 0 and 0", 0);
        value("1000-age*50", -1000);
        value("age", 40);
    }

    private static void errors() {
        value("1/0", ERROR);
        value("1 or 1/0", ERROR);
        value("0 and 1/(age-40)", ERROR);
        value("0*(1/0)", ERROR);
        // 10 to the 12 itself is no error, one more is.
        value("1000*1000*1000*1000", 1000000000000L);
        value("1000*1000*1000*1000+1", ERROR);
        value("0-1000*1000*1000*1000", -1000000000000L);
        value("0-1000*1000*1000*1000-1", ERROR);
        value("9999*9999*9999*9999", ERROR);
        value("1000*1000*1000*1000*1000*1000*1000*1000", ERROR);
        value("(1000*1000*1000*1000)*(1000*1000*1000*1000)", ERROR);
        value("(0-1000*1000*1000*1000)*(0-1)", 1000000000000L);
        value("(0-9999)*9999*9999", -999700029999L);
        value("(0-9999)*9999*9999*2", ERROR);
        value("not (1/0)", ERROR);
    }

    private static final String WORLD = "man a 90;man b 7;tusk t 30 1;tusk u 50 0;debt a b 20 t 1;debt a b 9 t 2;"
        + "lean t u 3;law pay ";

    private static void nameOf(int what, String rule, String name, int debt, int tusk, long want) {
        String pay = rule.equals("pay") ? name : "0";
        String text = WORLD + pay + ";" + (rule.equals("pay") ? "" : "law " + rule + " " + name + ";");
        TuskLedger x = PROBE.told(text);
        x.go(5);
        PROBE.due(rule + " " + name + " of " + debt + ", " + tusk, x.law(what, debt, tusk), want);
    }

    private static void namesOfPass() {
        // Day 5; without a law of pass both debts are known by t and u, but here the law says by itself.
        nameOf(0, "pass", "sum", 0, 0, 20);
        nameOf(0, "pass", "age", 0, 0, 30);
        nameOf(0, "pass", "age", 0, 1, 50);
        nameOf(0, "pass", "purse", 1, 0, 36);
        nameOf(0, "pass", "known", 0, 0, 2);
        nameOf(0, "pass", "days", 0, 0, 4);
        nameOf(0, "pass", "days", 1, 0, 3);
        nameOf(0, "pass", "knows", 0, 0, 2);
        nameOf(0, "pass", "day", 0, 0, 5);
        // Of one to come there is nothing owed, known, open.
        TuskLedger x = PROBE.told(WORLD + "0;law pass sum*1000+known*100+days*10+knows;");
        PROBE.due("pass of one to come", x.law(0, 0, 0), 0);
        x.go(2);
        PROBE.due("pass now", x.law(0, 0, 0), 20 * 1000 + 100 + 10 + 1);
        PROBE.due("pass by one that knows nothing", x.law(0, 0, 1), 20 * 1000 + 100 + 10);
    }

    private static void namesOfPay() {
        String head = "man a 90;man b 7;tusk t 30 1;tusk u 50 0;debt a b 20 t 1;lean t u 3;law pay ";
        TuskLedger x = PROBE.told(head + "(((sum*100+age)*10+known)*10+days)*10+knows;");
        PROBE.due("pay of one to come", x.law(1, 0, 9), 0);
        x = PROBE.told(head + "day>90 or knows;");
        x.go(5);
        PROBE.due("knows is 0 of pay", x.law(1, 0, 0), 0);
        PROBE.due("it is open yet", x.debt(0, 5), 1);
        x = PROBE.told(head + "(age*10+known)*10+days-9999;");
        x.lend(0, 1, 2, 1);
        PROBE.due("pay: the oldest that knows it", x.law(1, 1, 0), (50 * 10 + 1) * 10 - 9999);
        PROBE.due("pay: nobody knows it", x.law(1, 0, 0), -9999);
        // By a law that forbids paying while the young one alone knows it: age is the oldest one's.
        x = PROBE.told(head + "age=50 and known=2 and days=2;");
        PROBE.due("paid when u knows it, too", x.ends(0), 4);
        x = PROBE.told("man a 90;man b 7;tusk t 30 1;law pay purse*100+sum;");
        x.lend(0, 1, 20, 0);
        PROBE.due("pay: purse and sum", x.law(1, 0, 0), 27 * 100 + 20);
    }

    private static void namesOfDie() {
        TuskLedger x = PROBE.told("man a 90;man b 7;tusk t 30 1;tusk u 50 0;debt a b 20 t 1;debt a b 9 t 2;law pay 0;"
            + "law die ((((sum+purse+days)*100+age)*10+known)*10+knows)*10+day;");
        PROBE.due("die at first", x.law(2, 0, 0), 30 * 1000);
        x.go(3);
        PROBE.due("die of t", x.law(2, 0, 0), 30 * 1000 + 223);
        PROBE.due("die of u, the debt isn't looked at", x.law(2, -7, 1), 50 * 1000 + 3);
    }

    private static void noSuchOnes() {
        TuskLedger x = PROBE.told("man a 90;man b 7;tusk t 30 1;debt a b 20 t 1;law pass 5;law pay 6;");
        PROBE.due("law(0, 0, 0)", x.law(0, 0, 0), 5);
        PROBE.due("law(0, 1, 0)", x.law(0, 1, 0), ERROR);
        PROBE.due("law(0, -1, 0)", x.law(0, -1, 0), ERROR);
        PROBE.due("law(0, 0, 1)", x.law(0, 0, 1), ERROR);
        PROBE.due("law(0, 0, -1)", x.law(0, 0, -1), ERROR);
        PROBE.due("law(1, 0, -1)", x.law(1, 0, -1), 6);
        PROBE.due("law(1, 1, 0)", x.law(1, 1, 0), ERROR);
        PROBE.due("law(2, 0, 0): not told", x.law(2, 0, 0), ERROR);
        PROBE.due("law(3, 0, 0)", x.law(3, 0, 0), ERROR);
        PROBE.due("law(-1, 0, 0)", x.law(-1, 0, 0), ERROR);
        x = PROBE.told("tusk t 30 1;tusk u 3 1;dies t 0;law die age+knows;");
        x.go(1);
        PROBE.due("die of one that died", x.law(2, 0, 0), 30);
        PROBE.due("law(2, 0, 2)", x.law(2, 0, 2), ERROR);
    }

    private static void inPlaceOfAnError() {
        String head = "man a 90;man b 90;tusk t 30 1;tusk u 50 0;debt a b 20 t 0;";
        TuskLedger x = PROBE.told(head + "law pass 1/0;law pay 1/0;law die 1/0;");
        x.go(1);
        PROBE.due("pass by an error", x.lean(0, 1), 1);
        PROBE.due("pay by an error", x.ends(0), 5);
        PROBE.due("die by an error", x.lives(1, 6, 1), 1);
        x = PROBE.told("tusk t 70 0;law die 1/0;");
        PROBE.due("die by an error", x.lives(0, 1, 0), 89);
        x = PROBE.told(head + "law pass 0;law pay 0;law die 0;");
        x.go(1);
        PROBE.due("pass by 0", x.lean(0, 1), 0);
        PROBE.due("pay by 0", x.ends(0), -2);
        x = PROBE.told(head + "law pay 0-3;");
        PROBE.due("pay by what isn't 0", x.ends(0), 1);
    }
}
