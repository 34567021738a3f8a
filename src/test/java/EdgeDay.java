import java.util.NoSuchElementException;

/** Edges of days and calls: the terms of paragraph 2 and promises 6 to 14, sentence by sentence. */
final class EdgeDay {
    private static final long ERROR = Long.MIN_VALUE;
    private static final String TWO = "man a 90;man b 0;tusk t 1 0;tusk u 1 0;tusk v 1 0;";

    private final Probe probe;

    EdgeDay(Probe probe) {
        this.probe = probe;
    }

    void run() {
        kinds();
        knowing();
        lent();
        refused();
        leaned();
        died();
        paid();
        tenthDays();
        olderAndDead();
        forgiven();
        nextDay();
        namesOfLaws();
        values();
        errors();
        numbers();
        asItGoes();
        debtOfWhat();
        debtNoSuchDebt();
        debtNoSuchWhat();
        man();
        manNoSuch();
        tusk();
        tuskNoSuch();
        law();
        lawNoSuch();
        lendNumber();
        lendRefused();
        lendNone();
        lean();
        leanNone();
        pay();
        payRefused();
        payNone();
        gift();
        giftNone();
        go();
        goNone();
    }

    private TuskLedger gone(String text, int days) {
        TuskLedger x = probe.told(text);
        x.go(days);
        return x;
    }

    private void kinds() {
        probe.sentence("Terms", "A DEBT is TO COME (0), OPEN (1), PAID (2), FORGIVEN (3), REFUSED (4).");
        TuskLedger x = gone(TWO + "debt a b 1 t 1;debt a b 2 t 0;debt a b 3 t 0;debt a b 4 u 0;debt b a 99 t 0;dies u 0;"
            + "law pay sum=3;", 1);
        for (int kind = 0; kind <= 4; kind++) {
            probe.due("debt(" + kind + ", 5)", x.debt(kind, 5), kind);
        }
    }

    private void knowing() {
        probe.sentence("Terms", "An ELEPHANT that is ALIVE KNOWS some DEBTS.");
        TuskLedger x = gone(TWO + "debt a b 1 t 0;debt a b 1 u 0;lean t u 0;dies t 1;law pay 0;", 1);
        probe.due("tusk(0, 3)", x.tusk(0, 3), 1);
        probe.due("tusk(1, 3)", x.tusk(1, 3), 3);
        probe.due("tusk(2, 3)", x.tusk(2, 3), 0);
        x.go(1);
        probe.due("one that died", x.tusk(0, 3), 0);
    }

    private void lent() {
        probe.sentence("Terms", "(1) by numbers each DEBT of this DAY that is TO COME: if its ELEPHANT is ALIVE and the "
            + "LENDER's PURSE has SUM and BUNS, it is OPEN: that PURSE is less by both, the DEBTOR's more by SUM, "
            + "OWED is SUM, the ELEPHANT KNOWS it;");
        // Just what is needed is in the purse.
        TuskLedger x = gone("man a 29;man b 3;tusk t 1 9;debt a b 20 t 1;law pay 0;", 1);
        probe.due("ahead of its day", x.debt(0, 5), 0);
        x.go(1);
        probe.due("OPEN", x.debt(0, 5), 1);
        probe.due("LENDER", x.man(0, 0), 0);
        probe.due("DEBTOR", x.man(1, 0), 23);
        probe.due("OWED", x.debt(0, 6), 20);
        probe.due("KNOWS", x.debt(0, 7), 1);
        // The buns are those of its own elephant.
        x = gone("man a 29;man b 3;tusk s 1 0;tusk t 1 9;debt a b 20 t 0;law pay 0;", 1);
        probe.due("LENDER", x.man(0, 0), 0);
        x = gone("man a 28;man b 3;tusk s 1 9;tusk t 1 8;debt a b 20 t 0;law pay 0;", 1);
        probe.due("LENDER", x.man(0, 0), 0);
        // By numbers: the debtor of the first one lends it on.
        x = gone("man a 5;man b 0;man c 0;tusk t 1 0;debt a b 5 t 0;debt b c 5 t 0;law pay 0;", 1);
        probe.due("OPEN", x.debt(1, 5), 1);
        // One of this day that is open by now isn't lent again.
        x = probe.told("man a 9;man b 0;tusk t 1 0;law pay 0;");
        x.lend(0, 1, 4, 0);
        x.go(1);
        probe.due("once", x.man(0, 0), 5);
    }

    private void refused() {
        probe.sentence("Terms", "else REFUSED.");
        TuskLedger x = gone("man a 28;man b 3;tusk t 1 9;debt a b 20 t 0;law pay 0;", 1);
        probe.due("one bun lacks", x.debt(0, 5), 4);
        probe.due("LENDER", x.man(0, 0), 28);
        probe.due("DEBTOR", x.man(1, 0), 3);
        probe.due("OWED", x.debt(0, 6), 0);
        probe.due("KNOWS", x.debt(0, 7), 0);
        x.gift(0, 99);
        x.go(99);
        probe.due("it stays so", x.debt(0, 5), 4);
        x = gone(TWO + "debt a b 1 t 1;dies t 0;", 2);
        probe.due("not ALIVE", x.debt(0, 5), 4);
        // By numbers: the purse comes too late.
        x = gone("man a 5;man b 0;man c 0;tusk t 1 0;debt b c 5 t 0;debt a b 5 t 0;law pay 0;", 1);
        probe.due("ahead of the purse", x.debt(0, 5), 4);
    }

    private void leaned() {
        probe.sentence("Terms", "(2) by their numbers each leaning of this DAY, if both are ALIVE: the second one KNOWS, "
            + "too, each DEBT, by numbers, that the first one KNOWS and the second one doesn't and of which E of pass "
            + "isn't 0 (1 without, with an ERROR).");
        String head = TWO + "debt a b 5 t 0;debt a b 6 t 0;law pay 0;";
        probe.due("without", gone(head + "lean t u 0;", 1).tusk(1, 3), 3);
        probe.due("with an ERROR", gone(head + "lean t u 0;law pass 1/0;", 1).tusk(1, 3), 3);
        probe.due("0", gone(head + "lean t u 0;law pass 0;", 1).tusk(1, 3), 0);
        probe.due("below 0", gone(head + "lean t u 0;law pass 0-1;", 1).tusk(1, 3), 3);
        probe.due("of one", gone(head + "lean t u 0;law pass sum=6;", 1).tusk(1, 3), 2);
        probe.due("on another day", gone(head + "lean t u 1;", 1).tusk(1, 3), 0);
        probe.due("in the order of numbers", gone(head + "lean t u 0;lean u v 0;", 1).tusk(2, 3), 3);
        probe.due("not the other way", gone(head + "lean u v 0;lean t u 0;", 1).tusk(2, 3), 0);
        probe.due("the second one is dead", gone(head + "lean t u 1;dies u 0;", 2).tusk(1, 3), 0);
        probe.due("the first one is dead", gone(head + "lean t u 1;lean u v 2;dies u 1;", 3).tusk(2, 3), 0);
        // By numbers: what it learned counts for E of the next debt; knows is the first one's.
        probe.due("known", gone(head + "lean t u 0;lean t v 0;law pass known=1;", 1).tusk(2, 3), 0);
        // Who knows it already isn't told again: E isn't asked.
        TuskLedger x = gone(head + "lean t u 0;lean t u 1;", 2);
        probe.due("known by two", x.debt(0, 7), 3);
    }

    private void died() {
        probe.sentence("Terms", "(3) ELEPHANTS whose death is on this DAY die: they KNOW nothing any more.");
        TuskLedger x = gone(TWO + "debt a b 5 t 0;lean t u 4;dies t 4;law pay 0;", 4);
        probe.due("ALIVE ahead of it", x.tusk(0, 2), 1);
        probe.due("KNOWS", x.tusk(0, 3), 1);
        x.go(1);
        probe.due("ALIVE", x.tusk(0, 2), 0);
        probe.due("KNOWS", x.tusk(0, 3), 0);
        probe.due("it leaned on that day yet", x.debt(0, 7), 2);
    }

    private void paid() {
        probe.sentence("Terms", "(4) by numbers each DEBT that is OPEN is PAID, if the DEBTOR's PURSE is OWED at least and "
            + "E of pay isn't 0 (it is OPEN for 5 DAYS at least without, with an ERROR): the PURSE is less, the LENDER's "
            + "more by OWED, nobody KNOWS it any more.");
        for (String law : new String[] {"", "law pay 1/0;"}) {
            TuskLedger x = gone(TWO + "debt a b 20 t 3;" + law, 8);
            probe.due("open for 4 days", x.debt(0, 5), 1);
            x.go(1);
            probe.due("open for 5 days", x.debt(0, 5), 2);
            probe.due("DEBTOR", x.man(1, 0), 0);
            probe.due("LENDER", x.man(0, 0), 90);
            probe.due("KNOWS", x.debt(0, 7), 0);
            probe.due("OWED", x.debt(0, 6), 0);
        }
        probe.due("0", gone(TWO + "debt a b 20 t 0;law pay 0;", 50).debt(0, 5), 1);
        probe.due("below 0", gone(TWO + "debt a b 20 t 0;law pay 0-1;", 1).debt(0, 5), 2);
        // One coin lacks, then none.
        TuskLedger x = gone("man a 90;man b 0;tusk t 1 0;debt a b 20 t 0;debt b a 1 t 0;law pay sum=20;", 1);
        probe.due("19 of 20", x.debt(0, 5), 1);
        x.gift(1, 1);
        x.go(1);
        probe.due("20 of 20", x.debt(0, 5), 2);
        // Open for more than 5 days is as good.
        for (String law : new String[] {"", "law pay 1/0;"}) {
            x = gone("man a 90;man b 0;man c 0;tusk t 1 0;debt a b 20 t 0;debt b c 20 t 1;" + law, 6);
            probe.due("open for 5 days, an empty purse", x.debt(0, 5), 1);
            x.gift(1, 20);
            x.go(1);
            probe.due("open for 6 days", x.debt(0, 5), 2);
        }
        // By numbers: what the first one pays is there for the second one, not the other way.
        x = gone("man a 20;man b 20;man c 0;tusk t 1 0;debt b c 20 t 0;debt a b 20 t 0;debt b a 20 t 0;law pay sum=20;", 1);
        probe.due("c pays b", x.debt(0, 5), 2);
        probe.due("b pays a", x.debt(1, 5), 2);
        // On the day on which who knew it died it is paid yet.
        probe.due("on the last day", gone(TWO + "debt a b 20 t 0;dies t 5;", 6).debt(0, 5), 2);
    }

    private void tenthDays() {
        probe.sentence("Terms", "(5) each tenth DAY (DAY modulo 10 is 9): OWED of each DEBT that is OPEN is more by a "
            + "rate-th of a hundred, cut, 9999 at most;");
        TuskLedger x = gone(TWO + "debt a b 39 t 0;debt a b 1 t 0;debt a b 9 t 15;rate 5;law pay 0;", 9);
        probe.due("behind day 8", x.debt(0, 6), 39);
        x.go(1);
        probe.due("39 and 1.95, cut", x.debt(0, 6), 40);
        probe.due("1 and 0.05, cut", x.debt(1, 6), 1);
        probe.due("to come", x.debt(2, 6), 0);
        x.go(9);
        probe.due("behind day 18", x.debt(0, 6), 40);
        x.go(1);
        probe.due("behind day 19", x.debt(0, 6), 42);
        x = gone(TWO + "debt a b 78 t 0;rate 100;law pay 0;", 70);
        probe.due("78 times 128", x.debt(0, 6), 9984);
        x.go(10);
        probe.due("9999 at most", x.debt(0, 6), 9999);
        x.go(10);
        probe.due("9999 yet", x.debt(0, 6), 9999);
        probe.due("SUM", x.debt(0, 2), 78);
        // Paying comes ahead of the interest of its day.
        x = gone(TWO + "debt a b 10 t 4;rate 100;", 10);
        probe.due("paid on day 9", x.debt(0, 5), 2);
        probe.due("without interest", x.man(0, 0), 90);
    }

    private void olderAndDead() {
        probe.sentence("Terms", "then by numbers each ELEPHANT that is ALIVE is 1 older (99 at most) and dies, if a number "
            + "modulo 100 is below E of die (0 .. 100; AGE less 60, 0 at least, without, with an ERROR; no number, if "
            + "that is 0 or 100).");
        TuskLedger x = gone("tusk s 98 0;tusk t 99 0;tusk u 7 0;dies u 3;law die 0;", 10);
        probe.due("98 and 1", x.tusk(0, 0), 99);
        probe.due("99 at most", x.tusk(1, 0), 99);
        probe.due("one that died", x.tusk(2, 0), 7);
        x.go(10);
        probe.due("99 yet", x.tusk(0, 0), 99);
        // Seed 0 tells 0, 68, 88, 17 of a hundred.
        probe.due("68 isn't below 68", gone("tusk s 1 0;tusk t 1 0;law die 68;", 10).tusk(1, 2), 1);
        probe.due("68 is below 69", gone("tusk s 1 0;tusk t 1 0;law die 69;", 10).tusk(1, 2), 0);
        probe.due("0 is below 1", gone("tusk s 1 0;law die 1;", 10).tusk(0, 2), 0);
        probe.due("0: none dies", gone("tusk s 1 0;law die 0;", 10).tusk(0, 2), 1);
        probe.due("below 0 is 0", gone("tusk s 1 0;law die 0-5;", 10).tusk(0, 2), 1);
        probe.due("100: all die", gone("tusk s 1 0;tusk t 1 0;tusk u 1 0;law die 100;", 10).count(9), 0);
        probe.due("above 100 is 100", gone("tusk s 1 0;tusk t 1 0;tusk u 1 0;law die 9999;", 10).count(9), 0);
        // Of 0 and 100, and what is cut to these, no number: the next one has the first, 0.
        for (String odds : new String[] {"0", "0-1", "0-9999", "100", "101", "9999"}) {
            String law = "law die (age=2)+(age=51)*(" + odds + ");";
            probe.due("no number of " + odds, gone("tusk s 50 0;tusk t 1 0;" + law, 10).tusk(1, 2), 0);
        }
        for (String odds : new String[] {"1", "99"}) {
            String law = "law die (age=2)+(age=51)*(" + odds + ");";
            probe.due("a number of " + odds, gone("tusk s 50 0;tusk t 1 0;" + law, 10).tusk(1, 2), 1);
        }
        for (String law : new String[] {"", "law die 1/0;"}) {
            x = gone("tusk s 59 0;tusk t 60 0;tusk u 7 0;" + law, 10);
            probe.due("60 less 60", x.tusk(0, 2), 1);
            probe.due("61 less 60: the first number, 0", x.tusk(1, 2), 0);
            probe.due("0 at least", x.tusk(2, 2), 1);
            // 99 less 60 is 39: of 0, 68, 88, 17 two are below it; 38 of seed 1 is below 39, not below 38.
            probe.due("39 of 99", gone("tusk s 99 0;seed 1;" + law, 10).tusk(0, 2), 0);
            probe.due("38 of 98", gone("tusk s 97 0;seed 1;" + law, 10).tusk(0, 2), 1);
        }
    }

    private void forgiven() {
        probe.sentence("Terms", "(6) each DEBT that is OPEN and that nobody KNOWS is FORGIVEN.");
        TuskLedger x = gone(TWO + "debt a b 5 t 0;debt a b 6 t 0;debt a b 7 t 3;lean t u 0;dies t 2;law pass sum=6;"
            + "law pay 0;", 2);
        probe.due("t knows it", x.debt(0, 5), 1);
        x.go(1);
        probe.due("nobody", x.debt(0, 5), 3);
        probe.due("OWED", x.debt(0, 6), 0);
        probe.due("the debtor keeps it", x.man(1, 0), 11);
        probe.due("u knows it", x.debt(1, 5), 1);
        probe.due("to come", x.debt(2, 5), 0);
        // Who dies by odds leaves it forgiven on the same day.
        x = gone(TWO + "debt a b 5 t 9;law die 100;law pay 0;", 10);
        probe.due("on the day of the death", x.debt(0, 5), 3);
    }

    private void nextDay() {
        probe.sentence("Terms", "Then it is the next DAY.");
        TuskLedger x = new TuskLedger();
        probe.due("at first", x.count(4), 0);
        x.go(1);
        probe.due("then", x.count(4), 1);
    }

    private void namesOfLaws() {
        probe.sentence("Terms", "NAMES: sum: OWED of the DEBT (of die 0); age: AGE of the ELEPHANT (of pass of the first "
            + "one, of pay of the oldest that KNOWS it, 0 of none); purse: PURSE of the DEBTOR (of die 0); known: how many "
            + "KNOW it (of die how many DEBTS it KNOWS); days: for how many DAYS it is OPEN (of die 0); knows: how many "
            + "DEBTS that ELEPHANT KNOWS (of pass the first one, of pay 0); day: the DAY.");
        String[] names = {"sum", "age", "purse", "known", "days", "knows", "day"};
        // Day 10: debt 0 has 20 and interest 2; t, 31, and u, 51, know it; b has 29 and 9.
        long[] pass = {22, 31, 36, 2, 9, 2, 10};
        long[] pay = {22, 51, 36, 2, 9, 0, 10};
        long[] passByU = {22, 51, 36, 2, 9, 1, 10};
        long[] die = {0, 51, 0, 1, 0, 1, 10};
        long[] dieOfT = {0, 31, 0, 2, 0, 2, 10};
        String head = "man a 90;man b 7;tusk t 30 1;tusk u 50 0;debt a b 20 t 1;debt a b 9 t 2;lean t u 1;rate 10;";
        for (int i = 0; i < names.length; i++) {
            probe.due("pass " + names[i], gone(head + "law pass " + names[i] + ";law pay 0;", 10).law(0, 0, 0), pass[i]);
            probe.due("pass " + names[i] + " by u", gone(head + "law pass " + names[i] + ";law pay 0;", 10).law(0, 0, 1),
                passByU[i]);
            // So that nothing is paid while it is asked, pay is 0 up to day 9.
            probe.due("pay " + names[i], gone(head + "law pay (day>9)*" + names[i] + ";", 10).law(1, 0, 0), pay[i]);
            probe.due("die " + names[i] + " of t", gone(head + "law pay 0;law die (day>9)*" + names[i] + ";", 10)
                .law(2, 0, 0), dieOfT[i]);
            probe.due("die " + names[i], gone(head + "law pay 0;law die (day>9)*" + names[i] + ";", 10).law(2, 0, 1), die[i]);
        }
        TuskLedger x = probe.told(head + "law pay age*10+known;law pass sum*100+known*10+days;");
        probe.due("age of none", x.law(1, 0, 0), 0);
        x.lend(0, 1, 5, 0);
        probe.due("age of the first elephant, who alone knows it", x.law(1, 2, 0), 301);
        x.undo();
        probe.due("of one to come", x.law(0, 0, 0), 0);
    }

    private void dueE(String e, long want) {
        probe.due(e, probe.told("tusk t 40 0;law die " + e + ";").law(2, 0, 0), want);
    }

    private void values() {
        probe.sentence("Terms", "VALUES are longs; comparisons, and, or, not are 1 or 0 (what isn't 0 is as 1, both sides "
            + "are worked out), / is cut towards 0;");
        dueE("9999*9999*999", 99880020999L);
        dueE("7/2", 3);
        dueE("(0-7)/2", -3);
        dueE("7/(0-2)", -3);
        dueE("(0-7)/(0-2)", 3);
        dueE("1/2", 0);
        dueE("(0-1)/2", 0);
        dueE("5 and (0-5)", 1);
        dueE("5 and 0", 0);
        dueE("0 or 5", 1);
        dueE("(0-5) or 0", 1);
        dueE("0 or 0", 0);
        dueE("not 5", 0);
        dueE("not (0-5)", 0);
        dueE("not 0", 1);
        dueE("1<2", 1);
        dueE("2<2", 0);
        dueE("3<2", 0);
        dueE("1<=2", 1);
        dueE("3>=2", 1);
        dueE("1>2", 0);
        dueE("2<=2", 1);
        dueE("3<=2", 0);
        dueE("2=2", 1);
        dueE("2=3", 0);
        dueE("2<>3", 1);
        dueE("2<>2", 0);
        dueE("2>=2", 1);
        dueE("1>=2", 0);
        dueE("3>2", 1);
        dueE("2>2", 0);
        dueE("(0-3)<2", 1);
        dueE("1 or 1/0", ERROR);
        dueE("0 and 1/0", ERROR);
    }

    private void errors() {
        probe.sentence("Terms", "ERROR: / by 0, a value above 10 to the 12 or below 0 by more than that.");
        dueE("5/0", ERROR);
        dueE("0/0", ERROR);
        dueE("5/(age-40)", ERROR);
        dueE("0/5", 0);
        String most = "1000*1000*1000*1000";
        dueE(most, 1000000000000L);
        dueE(most + "+1", ERROR);
        dueE(most + "+1-1", ERROR);
        dueE("0-" + most, -1000000000000L);
        dueE("0-" + most + "-1", ERROR);
        dueE("(" + most + ")*2", ERROR);
        dueE("(" + most + ")*(" + most + ")", ERROR);
        dueE("4096*4096*1024", 17179869184L);
        dueE("(0-4096*4096)*1024", -17179869184L);
        // 2 to the 33 times 2 to the 31 would be 0 of a long that wraps around.
        dueE("(4096*4096*512)*(4096*4096*128)", ERROR);
        dueE("(4096*4096*1024)*(4096*4096*64)", ERROR);
        dueE("(4096*4096*256)*(4096*4096*256)", ERROR);
        dueE("(0-4096*4096*512)*(4096*4096*128)", ERROR);
        dueE("(4096*4096*512)*(0-4096*4096*128)", ERROR);
        dueE("(0-4096*4096*512)*(0-4096*4096*128)", ERROR);
        dueE("(0-" + most + ")*(0-1)", 1000000000000L);
        dueE("(0-" + most + ")/(0-1)", 1000000000000L);
        dueE("(0-" + most + ")*(0-2)", ERROR);
        dueE("(" + most + ")*0", 0);
        dueE("0*(1/0)", ERROR);
        dueE("not (1/0)", ERROR);
        dueE("1/0=1/0", ERROR);
    }

    private void numbers() {
        probe.sentence("Terms", "Numbers are the last one (at first the seed) times 1103515245 and 12345, without what is "
            + "above 31 bits, by 65536.");
        // At odds of 1 each tenth day has its number; on the last one the odds are just the number's, or one more.
        long number = 99999;
        for (int i = 1; i <= 9; i++) {
            number = (number * 1103515245L + 12345L) % 2147483648L;
            long odds = number / 65536 % 100;
            int day = 10 * i - 1;
            String law = "tusk s 1 0;seed 99999;law die (day<" + day + ")+(day=" + day + ")*";
            probe.due("lives by number " + i, gone(law + odds + ";", 10 * i).tusk(0, 2), 1);
            probe.due("dies by number " + i, gone(law + (odds + 1) + ";", 10 * i).tusk(0, 2), 0);
        }
        // The largest seed of chance: the product is beyond 31 bits, beyond 32 and beyond 61.
        long state = 2147483647L;
        int lives = 0;
        for (int i = 0; i < 10; i++) {
            state = state * 1103515245L + 12345L & 2147483647L;
            lives += state / 65536 % 100 < 50 ? 0 : 1;
        }
        probe.due("chance(2147483647, 10, 0)", probe.told("tusk s 1 0;law die 50;").chance(2147483647, 10, 0), lives);
    }

    private void asItGoes() {
        probe.sentence("Terms", "AS IT GOES: without numbers: an ELEPHANT dies, if E of die is 50 at least.");
        probe.due("49", probe.told("tusk s 1 0;law die 49;").ahead(99, 4, 0), 1);
        probe.due("50", probe.told("tusk s 1 0;law die 50;").ahead(10, 4, 0), 0);
        probe.due("50, a day sooner", probe.told("tusk s 1 0;law die 50;").ahead(9, 4, 0), 1);
        probe.due("39 of 99", probe.told("tusk s 99 0;").ahead(99, 4, 0), 1);
        probe.due("9999", probe.told("tusk s 1 0;law die 9999;").ahead(10, 4, 0), 0);
        probe.due("below 0", probe.told("tusk s 1 0;law die 0-9999;").ahead(99, 4, 0), 1);
        // Whatever the numbers: they are as they were, too.
        TuskLedger x = probe.told("tusk s 1 0;law die 1;seed 0;");
        probe.due("ahead", x.ahead(10, 4, 0), 1);
        x.go(10);
        probe.due("by the first number, 0", x.count(9), 0);
    }

    private void debtOfWhat() {
        probe.sentence("6", "Of a DEBT now, what 0 LENDER, 1 DEBTOR, 2 SUM, 3 ELEPHANT, 4 the DAY, 5 what it is (0 .. 4), "
            + "6 OWED (0, if it isn't OPEN), 7 ELEPHANTS (bits) that KNOW it.");
        TuskLedger x = gone(TWO + "debt b a 99 t 0;debt a b 20 u 1;lean u v 1;rate 50;law pay 0;", 10);
        int[] refused = {1, 0, 99, 0, 0, 4, 0, 0};
        int[] open = {0, 1, 20, 1, 1, 1, 30, 6};
        for (int what = 0; what <= 7; what++) {
            probe.due("refused: debt(0, " + what + ")", x.debt(0, what), refused[what]);
            probe.due("open: debt(1, " + what + ")", x.debt(1, what), open[what]);
        }
        x.gift(1, 10);
        x.pay(1);
        int[] paid = {0, 1, 20, 1, 1, 2, 0, 0};
        for (int what = 0; what <= 7; what++) {
            probe.due("paid: debt(1, " + what + ")", x.debt(1, what), paid[what]);
        }
    }

    private static int thrownBy(TuskLedger x, int debt, int what) {
        try {
            x.debt(debt, what);
            return 0;
        } catch (IndexOutOfBoundsException e) {
            return e.getClass() == IndexOutOfBoundsException.class ? 1 : 3;
        } catch (NoSuchElementException e) {
            return e.getClass() == NoSuchElementException.class ? 2 : 4;
        }
    }

    private void debtNoSuchDebt() {
        probe.sentence("6", "IndexOutOfBoundsException: no such DEBT.");
        TuskLedger x = probe.told(TWO + "debt a b 20 u 1;");
        probe.due("debt(0, 0)", thrownBy(x, 0, 0), 0);
        for (int debt : new int[] {-1, 1, 7, 8, 9, Integer.MAX_VALUE, Integer.MIN_VALUE}) {
            probe.due("debt(" + debt + ", 0)", thrownBy(x, debt, 0), 1);
        }
        x.lend(0, 1, 1, 0);
        probe.due("one that was lent by call", thrownBy(x, 1, 0), 0);
        x.undo();
        probe.due("and was undone", thrownBy(x, 1, 0), 1);
        probe.due("of a new object", thrownBy(new TuskLedger(), 0, 0), 1);
    }

    private void debtNoSuchWhat() {
        probe.sentence("6", "NoSuchElementException: no such what.");
        TuskLedger x = probe.told(TWO + "debt a b 20 u 1;");
        probe.due("debt(0, 7)", thrownBy(x, 0, 7), 0);
        for (int what : new int[] {-1, 8, Integer.MAX_VALUE, Integer.MIN_VALUE}) {
            probe.due("debt(0, " + what + ")", thrownBy(x, 0, what), 2);
        }
    }

    private void man() {
        probe.sentence("7", "Of a MAN now, what 0 PURSE, 1 NET.");
        TuskLedger x = probe.told("man a 0;man b 999;tusk t 1 0;");
        probe.due("an empty purse", x.man(0, 0), 0);
        probe.due("man(1, 0)", x.man(1, 0), 999);
        probe.due("no debts", x.man(0, 1), 0);
        x.lend(1, 0, 99, 0);
        probe.due("man(0, 0)", x.man(0, 0), 99);
        probe.due("man(0, 1)", x.man(0, 1), -99);
        probe.due("man(1, 1)", x.man(1, 1), 99);
    }

    private void manNoSuch() {
        probe.sentence("7", "Integer.MIN_VALUE: no such ones.");
        TuskLedger x = probe.told("man a 0;man b 999;");
        for (int none : new int[] {-1, 2, 5, 6, Integer.MAX_VALUE, Integer.MIN_VALUE}) {
            probe.due("man(" + none + ", 0)", x.man(none, 0), Integer.MIN_VALUE);
            probe.due("man(0, " + none + ")", x.man(0, none), Integer.MIN_VALUE);
        }
        probe.due("of a new object", new TuskLedger().man(0, 0), Integer.MIN_VALUE);
    }

    private void tusk() {
        probe.sentence("8", "Of an ELEPHANT now, what 0 AGE, 1 BUNS, 2 whether ALIVE (1, 0), 3 DEBTS (bits) that it KNOWS, "
            + "4 those that it alone KNOWS.");
        TuskLedger x = gone(TWO + "debt a b 1 t 0;debt a b 1 u 0;debt a b 1 t 0;lean t u 0;dies v 0;law pay 0;", 1);
        int[][] want = {{1, 0, 1, 5, 0}, {1, 0, 1, 7, 2}, {1, 0, 0, 0, 0}};
        for (int tusk = 0; tusk < 3; tusk++) {
            for (int what = 0; what <= 4; what++) {
                probe.due("tusk(" + tusk + ", " + what + ")", x.tusk(tusk, what), want[tusk][what]);
            }
        }
        x = probe.told("tusk t 99 9;");
        probe.due("AGE", x.tusk(0, 0), 99);
        probe.due("BUNS", x.tusk(0, 1), 9);
    }

    private void tuskNoSuch() {
        probe.sentence("8", "NONE: no such ones.");
        TuskLedger x = probe.told(TWO);
        for (int none : new int[] {-1, 5, 6, 31, 32, Integer.MAX_VALUE, Integer.MIN_VALUE}) {
            probe.due("tusk(" + none + ", 0)", x.tusk(none, 0), -1);
            probe.due("tusk(0, " + none + ")", x.tusk(0, none), -1);
        }
        probe.due("tusk(3, 0)", x.tusk(3, 0), -1);
        probe.due("of a new object", new TuskLedger().tusk(0, 0), -1);
    }

    private void law() {
        probe.sentence("9", "The law's E now (what 0 pass of a DEBT by an ELEPHANT, 1 pay of a DEBT, the ELEPHANT isn't "
            + "looked at, 2 die of an ELEPHANT as it is, the DEBT isn't looked at).");
        TuskLedger x = probe.told("man a 90;man b 0;tusk t 7 0;law pass sum+age;law pay purse-20;law die age*1000;");
        x.lend(0, 1, 20, 0);
        probe.due("pass", x.law(0, 0, 0), 27);
        for (int any : new int[] {-1, 0, 1, 99, Integer.MAX_VALUE, Integer.MIN_VALUE}) {
            probe.due("pay, by " + any, x.law(1, 0, any), 0);
            probe.due("die, of " + any, x.law(2, any, 0), 7000);
        }
    }

    private void lawNoSuch() {
        probe.sentence("9", "Long.MIN_VALUE: an ERROR, no such law, no such ones.");
        TuskLedger x = probe.told(TWO + "debt a b 20 t 0;law pass 1;law pay 1/0;");
        probe.due("an ERROR", x.law(1, 0, 0), ERROR);
        probe.due("a law that isn't told", x.law(2, 0, 0), ERROR);
        probe.due("law(0, 0, 0)", x.law(0, 0, 0), 1);
        for (int none : new int[] {-1, 3, 8, Integer.MAX_VALUE, Integer.MIN_VALUE}) {
            probe.due("what " + none, x.law(none, 0, 0), ERROR);
            probe.due("pass of debt " + none, x.law(0, none, 0), ERROR);
            probe.due("pass by elephant " + none, x.law(0, 0, none), ERROR);
        }
        x = probe.told(TWO + "debt a b 20 t 0;law pay 1;law die 1;");
        probe.due("pass isn't told", x.law(0, 0, 0), ERROR);
        for (int none : new int[] {-1, 3, 8, Integer.MAX_VALUE, Integer.MIN_VALUE}) {
            probe.due("pay of debt " + none, x.law(1, none, 0), ERROR);
            probe.due("die of elephant " + none, x.law(2, 0, none), ERROR);
        }
        probe.due("pay isn't told", probe.told(TWO + "debt a b 20 t 0;").law(1, 0, 0), ERROR);
    }

    private void lendNumber() {
        probe.sentence("10", "A MAN lends another one a SUM 1 .. 99 before an ELEPHANT now (as in (1), on this DAY): its "
            + "number;");
        TuskLedger x = gone("man a 101;man b 0;tusk t 1 1;debt a b 1 t 99;law pay 0;", 7);
        probe.due("a SUM of 99, all that is there", x.lend(0, 1, 99, 0), 1);
        probe.due("the DAY", x.debt(1, 4), 7);
        probe.due("OPEN", x.debt(1, 5), 1);
        probe.due("OWED", x.debt(1, 6), 99);
        probe.due("KNOWS", x.debt(1, 7), 1);
        probe.due("LENDER", x.man(0, 0), 1);
        probe.due("DEBTOR", x.man(1, 0), 99);
        probe.due("a SUM of 1", x.lend(1, 0, 1, 0), 2);
        // It is open for 0 days on this day: paid behind five more.
        x = gone("man a 101;man b 0;tusk t 1 1;", 7);
        x.lend(0, 1, 9, 0);
        probe.due("ends(0)", x.ends(0), 6);
    }

    private void lendRefused() {
        probe.sentence("10", "-2: it would be REFUSED;");
        TuskLedger x = gone("man a 20;man b 0;tusk t 1 3;tusk u 1 0;dies u 0;", 1);
        probe.due("one bun lacks", x.lend(0, 1, 18, 0), -2);
        probe.due("before one that died", x.lend(0, 1, 1, 1), -2);
        probe.due("an empty purse", x.lend(1, 0, 1, 0), -2);
        probe.due("none is told", x.count(2), 0);
        probe.due("nothing to undo", x.count(14), 0);
        probe.due("the purse", x.man(0, 0), 20);
        probe.due("just enough", x.lend(0, 1, 17, 0), 0);
    }

    private void lendNone() {
        probe.sentence("10", "NONE: no such ones, alike, there are 8.");
        TuskLedger x = gone("man a 999;man b 0;tusk t 1 0;tusk u 1 0;dies u 0;", 1);
        for (int none : new int[] {-1, 2, 6, Integer.MAX_VALUE, Integer.MIN_VALUE}) {
            probe.due("lender " + none, x.lend(none, 1, 1, 0), -1);
            probe.due("debtor " + none, x.lend(0, none, 1, 0), -1);
            probe.due("elephant " + none, x.lend(0, 1, 1, none), -1);
        }
        for (int none : new int[] {0, -1, 100, Integer.MAX_VALUE, Integer.MIN_VALUE}) {
            probe.due("sum " + none, x.lend(0, 1, none, 0), -1);
            probe.due("sum " + none + " before one that died", x.lend(0, 1, none, 1), -1);
        }
        probe.due("alike", x.lend(0, 0, 1, 0), -1);
        for (int i = 0; i < 8; i++) {
            probe.due("lend " + i, x.lend(0, 1, 1, 0), i);
        }
        probe.due("there are 8", x.lend(0, 1, 1, 0), -1);
        probe.due("there are 8, before one that died", x.lend(0, 1, 1, 1), -1);
        x.pay(0);
        probe.due("there are 8, though one is paid", x.lend(0, 1, 1, 0), -1);
        x.undo();
        x.undo();
        probe.due("there are 7 again", x.lend(0, 1, 1, 0), 7);
    }

    private void lean() {
        probe.sentence("11", "One ELEPHANT leans on another one now (as in (2)): how many DEBTS more the second one KNOWS;");
        TuskLedger x = gone(TWO + "debt a b 5 t 0;debt a b 6 t 0;debt a b 7 u 0;law pass sum<>6;law pay 0;", 1);
        probe.due("lean(2, 0): knows nothing", x.lean(2, 0), 0);
        probe.due("lean(0, 1)", x.lean(0, 1), 1);
        probe.due("again", x.lean(0, 1), 0);
        probe.due("lean(1, 2)", x.lean(1, 2), 2);
        probe.due("debt(0, 7)", x.debt(0, 7), 7);
        probe.due("debt(1, 7)", x.debt(1, 7), 1);
        x = gone(TWO + "debt a b 5 t 0;law pass 1/0;law pay 0;", 1);
        probe.due("with an ERROR", x.lean(0, 1), 1);
        x = gone(TWO + "debt a b 1 t 0;".repeat(8) + "law pay 0;", 1);
        probe.due("all 8", x.lean(0, 1), 8);
        // Now, whatever was asked of other days just ahead of it.
        x = gone(TWO + "debt a b 5 t 0;dies t 3;law pay 0;", 1);
        x.tried(2, 1, 9);
        probe.due("behind what was tried", x.lean(0, 1), 1);
        probe.due("debt(0, 7)", x.debt(0, 7), 3);
        x.ahead(9, 0, 0);
        probe.due("behind what is ahead", x.lean(0, 2), 1);
        probe.due("debt(0, 7)", x.debt(0, 7), 7);
    }

    private void leanNone() {
        probe.sentence("11", "NONE: no such ones, alike, not both ALIVE.");
        TuskLedger x = gone(TWO + "debt a b 5 t 0;dies v 0;law pay 0;", 1);
        for (int none : new int[] {-1, 3, 6, 32, 33, Integer.MAX_VALUE, Integer.MIN_VALUE}) {
            probe.due("lean(" + none + ", 0)", x.lean(none, 0), -1);
            probe.due("lean(0, " + none + ")", x.lean(0, none), -1);
        }
        probe.due("alike", x.lean(0, 0), -1);
        probe.due("on one that died", x.lean(0, 2), -1);
        probe.due("one that died", x.lean(2, 0), -1);
        probe.due("nothing to undo", x.count(14), 0);
        probe.due("nobody else knows it", x.debt(0, 7), 1);
    }

    private void pay() {
        probe.sentence("12", "A DEBT that is OPEN is PAID now: OWED;");
        TuskLedger x = gone("man a 90;man b 3;tusk t 1 0;debt a b 20 t 0;rate 15;law pay 0;", 10);
        probe.due("all that is there", x.pay(0), 23);
        probe.due("PAID", x.debt(0, 5), 2);
        probe.due("LENDER", x.man(0, 0), 93);
        probe.due("DEBTOR", x.man(1, 0), 0);
        probe.due("nobody KNOWS it", x.tusk(0, 3), 0);
    }

    private void payRefused() {
        probe.sentence("12", "-2: the PURSE hasn't so much, it isn't OPEN;");
        TuskLedger x = gone("man a 90;man b 2;tusk t 1 0;tusk u 1 0;debt a b 20 t 0;debt a b 1 t 90;debt b a 99 t 0;"
            + "debt a b 1 u 0;dies u 0;rate 20;law pay 0;", 10);
        probe.due("23 of 24", x.pay(0), -2);
        probe.due("to come", x.pay(1), -2);
        probe.due("refused", x.pay(2), -2);
        probe.due("forgiven", x.pay(3), -2);
        probe.due("nothing to undo", x.count(14), 0);
        x.gift(1, 1);
        probe.due("24 of 24", x.pay(0), 24);
        probe.due("paid", x.pay(0), -2);
    }

    private void payNone() {
        probe.sentence("12", "NONE: no such DEBT.");
        TuskLedger x = gone("man a 90;man b 2;tusk t 1 0;debt a b 20 t 0;law pay 0;", 1);
        for (int none : new int[] {-1, 1, 7, 8, Integer.MAX_VALUE, Integer.MIN_VALUE}) {
            probe.due("pay(" + none + ")", x.pay(none), -1);
        }
    }

    private void gift() {
        probe.sentence("13", "A MAN has so much 1 .. 99 more: PURSE;");
        TuskLedger x = probe.told("man a 0;");
        probe.due("gift(0, 1)", x.gift(0, 1), 1);
        probe.due("gift(0, 99)", x.gift(0, 99), 100);
        probe.due("man(0, 0)", x.man(0, 0), 100);
    }

    private void giftNone() {
        probe.sentence("13", "NONE: no such ones, it would be more than 99999.");
        TuskLedger x = probe.told("man a 999;");
        for (int none : new int[] {-1, 0, 100, Integer.MAX_VALUE, Integer.MIN_VALUE}) {
            probe.due("gift(0, " + none + ")", x.gift(0, none), -1);
        }
        for (int none : new int[] {-1, 1, 6, Integer.MAX_VALUE, Integer.MIN_VALUE}) {
            probe.due("gift(" + none + ", 1)", x.gift(none, 1), -1);
        }
        probe.due("nothing to undo", x.count(14), 0);
        // No purse comes so far in 512 calls; what these here answer is free, and is as if they were not the last ones.
        for (int i = 1; i <= 999; i++) {
            x.gift(0, 99);
        }
        probe.due("99900 and 98", x.gift(0, 98), 99998);
        probe.due("one too much", x.gift(0, 2), -1);
        probe.due("99999", x.gift(0, 1), 99999);
        probe.due("gift(0, 1)", x.gift(0, 1), -1);
        probe.due("man(0, 0)", x.man(0, 0), 99999);
    }

    private void go() {
        probe.sentence("14", "So many DAYS (0 .. 99) go by: which one it is;");
        TuskLedger x = probe.told("tusk t 0 0;law die 0;");
        probe.due("go(0)", x.go(0), 0);
        probe.due("go(1)", x.go(1), 1);
        probe.due("go(99)", x.go(99), 100);
        probe.due("ten tenth days", x.tusk(0, 0), 10);
    }

    private void goNone() {
        probe.sentence("14", "NONE, and none does: no such number, behind 9900.");
        TuskLedger x = probe.told("tusk t 0 0;law die 0;");
        for (int none : new int[] {-1, 100, Integer.MAX_VALUE, Integer.MIN_VALUE}) {
            probe.due("go(" + none + ")", x.go(none), -1);
        }
        probe.due("none does", x.count(4), 0);
        for (int i = 1; i <= 99; i++) {
            x.go(99);
        }
        x.go(98);
        probe.due("go(2) on day 9899", x.go(2), -1);
        probe.due("none does", x.count(4), 9899);
        probe.due("go(1)", x.go(1), 9900);
        probe.due("go(1) on day 9900", x.go(1), -1);
        probe.due("go(0)", x.go(0), 9900);
    }
}
