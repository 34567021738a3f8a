/** Promises 15 to 25, 30 and 31: what comes, and what could. */
public final class AheadTest {
    private static final Probe PROBE = new Probe();

    public static void main(String[] args) {
        ahead();
        ends();
        clear();
        keep();
        order();
        rests();
        lives();
        before();
        ring();
        oldest();
        chance();
        tried();
        PROBE.end();
    }

    private static void ahead() {
        TuskLedger x = PROBE.told("man a 60;man b 0;tusk t 1 1;tusk u 80 0;tusk v 48 0;debt a b 20 t 0;debt a b 9 u 1;"
            + "debt b a 99 t 2;debt a b 5 u 12;dies t 3;law die age+1;seed 1;law pay sum=20;");
        PROBE.due("ahead(0, 0)", x.ahead(0, 0, 0), 0);
        PROBE.due("ahead(0, 4)", x.ahead(0, 4, 0), 3);
        PROBE.due("ahead(1, 0)", x.ahead(1, 0, 0), 1);
        PROBE.due("ahead(1, 3, 0)", x.ahead(1, 3, 0), 59);
        PROBE.due("ahead(2, 3, 1)", x.ahead(2, 3, 1), 9);
        PROBE.due("ahead(2, 2)", x.ahead(2, 2, 0), 0);
        PROBE.due("ahead(3, 2)", x.ahead(3, 2, 0), 1);
        PROBE.due("ahead(3, 4)", x.ahead(3, 4, 0), 3);
        PROBE.due("ahead(4, 4)", x.ahead(4, 4, 0), 2);
        PROBE.due("ahead(9, 1)", x.ahead(9, 1, 0), 0);
        PROBE.due("ahead(10, 1)", x.ahead(10, 1, 0), 1);
        PROBE.due("50 at least dies", x.ahead(10, 4, 0), 0);
        PROBE.due("ahead(99, 2)", x.ahead(99, 2, 0), 2);
        PROBE.due("nothing went by", x.count(4), 0);
        x.go(2);
        PROBE.due("how many more", x.ahead(9, 0, 0), 0);
        PROBE.due("how many more", x.ahead(1, 2, 0), 1);
        PROBE.due("another man isn't looked at", x.ahead(1, 2, -5), 1);
        PROBE.due("no such man", x.ahead(1, 3, 2), -1);
        PROBE.due("no such man", x.ahead(1, 3, -1), -1);
        PROBE.due("no such what", x.ahead(1, 5, 0), -1);
        PROBE.due("no such what", x.ahead(1, -1, 0), -1);
        PROBE.due("no such n", x.ahead(-1, 0, 0), -1);
        PROBE.due("no such n", x.ahead(100, 0, 0), -1);
        // 49 of a hundred lives as it goes, whatever the numbers.
        x = PROBE.told("tusk t 1 0;law die 49;");
        PROBE.due("49", x.ahead(99, 4, 0), 1);
        x = PROBE.told("tusk t 1 0;law die 50;");
        PROBE.due("50", x.ahead(9, 4, 0), 1);
        PROBE.due("50", x.ahead(10, 4, 0), 0);
    }

    private static void ends() {
        TuskLedger x = PROBE.told("man a 60;man b 0;tusk t 1 1;debt a b 20 t 0;debt b a 50 t 3;debt a b 1 t 99;"
            + "law pay day>=98 or sum=9;");
        PROBE.due("paid on day 98, the 99th", x.ends(0), 99);
        PROBE.due("refused on day 3", x.ends(1), 4);
        PROBE.due("lent on day 99", x.ends(2), -2);
        x.go(1);
        PROBE.due("lent and paid on day 99", x.ends(2), 99);
        x.go(3);
        PROBE.due("refused now", x.ends(1), 0);
        x.lend(0, 1, 9, 0);
        PROBE.due("paid this day", x.ends(3), 1);
        x.pay(3);
        PROBE.due("paid now", x.ends(3), 0);
        PROBE.due("no such debt", x.ends(4), -1);
        PROBE.due("no such debt", x.ends(-1), -1);
    }

    private static String sixMen(String debts) {
        return "man a 99;man b 99;man c 99;man d 99;man e 99;man f 99;tusk t 1 0;law pay 0;" + debts;
    }

    private static void clear() {
        TuskLedger x = PROBE.told(sixMen("debt a b 5 t 0;debt b a 5 t 0;"));
        x.go(1);
        PROBE.due("nets are 0", x.clear(), 0);
        x = PROBE.told(sixMen("debt a b 5 t 0;debt b c 5 t 0;debt c d 5 t 0;"));
        x.go(1);
        PROBE.due("a chain is one paying", x.clear(), 1);
        x = PROBE.told(sixMen("debt a b 5 t 0;debt c d 5 t 0;debt e f 5 t 0;"));
        x.go(1);
        PROBE.due("three pairs", x.clear(), 3);
        // Nets 9, 1, -4, -6, 5, -5: a pair and a group of four.
        x = PROBE.told(sixMen("debt a c 4 t 0;debt a d 5 t 0;debt b d 1 t 0;debt e f 5 t 0;"));
        x.go(1);
        PROBE.due("a pair and four men", x.clear(), 4);
        // Nets 3, 4, 7 less 1, 6, 7: three and three would do, pairs of 7 do better.
        x = PROBE.told(sixMen("debt a d 1 t 0;debt a e 2 t 0;debt b e 4 t 0;debt c f 7 t 0;"));
        x.go(1);
        PROBE.due("7 to 7 and four men", x.clear(), 4);
        x = PROBE.told(sixMen("debt a b 1 t 0;debt a c 2 t 0;debt a d 4 t 0;debt a e 8 t 0;debt a f 16 t 0;"));
        x.go(1);
        PROBE.due("one to five", x.clear(), 5);
        x.pay(4);
        PROBE.due("one to four", x.clear(), 4);
        // Nets 5, 7 less 2, 3, 3, 4: 5 to 2 and 3, 7 to 3 and 4.
        x = PROBE.told(sixMen("debt a c 2 t 0;debt a d 3 t 0;debt b e 3 t 0;debt b f 4 t 0;debt b c 1 t 0;"
            + "debt c b 1 t 0;"));
        x.go(1);
        PROBE.due("two groups of three", x.clear(), 4);
    }

    private static void keep() {
        TuskLedger x = PROBE.told("man a 99;man b 0;tusk t 1 0;tusk u 1 0;tusk v 1 0;debt a b 9 t 0;lean u v 5;"
            + "dies t 3;dies u 6;dies v 8;law pay day>=20;");
        PROBE.due("to come", x.keep(0, 1), -2);
        x.go(1);
        PROBE.due("keep(0, 0)", x.keep(0, 0), 1);
        PROBE.due("keep(0, 2)", x.keep(0, 2), 1);
        PROBE.due("t died by then", x.keep(0, 3), 2);
        PROBE.due("u told it to v", x.keep(0, 7), 2);
        PROBE.due("v died by then", x.keep(0, 8), -2);
        PROBE.due("keep(0, 60)", x.keep(0, 60), -2);
        PROBE.due("keep(0, 61)", x.keep(0, 61), -1);
        PROBE.due("keep(0, -1)", x.keep(0, -1), -1);
        PROBE.due("keep(1, 1)", x.keep(1, 1), -1);
        PROBE.due("keep(-1, 1)", x.keep(-1, 1), -1);
        PROBE.due("who knows it is as it was", x.debt(0, 7), 1);
        // Dead ones are no keepers, and two may be needed: by the law it is paid if two know it.
        x = PROBE.told("man a 99;man b 0;tusk t 1 0;tusk u 1 0;tusk v 1 0;debt a b 9 u 0;dies t 0;dies u 5;dies v 5;"
            + "law pay known=2;");
        x.go(1);
        PROBE.due("u alone", x.keep(0, 4), 2);
        PROBE.due("u and v, and it is paid", x.keep(0, 5), 6);
        // Or all six.
        x = PROBE.told("man a 99;man b 0;tusk t 1 0;tusk u 1 0;tusk v 1 0;tusk w 1 0;tusk x 1 0;tusk y 1 0;"
            + "debt a b 9 t 0;dies t 5;dies u 5;dies v 5;dies w 5;dies x 5;dies y 5;law pay known=6;");
        x.go(1);
        PROBE.due("all six", x.keep(0, 5), 63);
        // Nobody needs to remember what is paid this day.
        x = PROBE.told("man a 99;man b 0;tusk t 1 0;debt a b 9 t 0;law pay day>=1;");
        x.go(1);
        PROBE.due("paid this day", x.keep(0, 1), 0);
        PROBE.due("no day", x.keep(0, 0), 1);
        x.go(1);
        PROBE.due("paid", x.keep(0, 0), -2);
    }

    private static void dueOrder(TuskLedger x, int first, int second, int third, int fourth, int sum) {
        int[] want = {first, second, third, fourth, sum};
        for (int what = 0; what <= 4; what++) {
            PROBE.due("order(" + what + ")", x.order(what), want[what]);
        }
    }

    private static void order() {
        TuskLedger x = PROBE.told("man a 30;man b 0;man c 0;tusk t 1 0;law pay 0;");
        dueOrder(x, -2, -2, -2, -2, 0);
        PROBE.due("order(5)", x.order(5), -1);
        PROBE.due("order(-1)", x.order(-1), -1);
        x.lend(0, 1, 10, 0);
        dueOrder(x, 0, -2, -2, -2, 10);
        x.lend(1, 2, 10, 0);
        dueOrder(x, 1, 0, -2, -2, 20);
        x.lend(2, 0, 10, 0);
        dueOrder(x, 2, 1, 0, -2, 30);
        // c has 9: 5 and 4 are paid, then b pays c 9, and c pays 9; the first row of those by which all is paid.
        x = PROBE.told("man a 30;man b 0;man c 0;tusk t 1 0;law pay 0;");
        x.lend(0, 2, 5, 0);
        x.lend(0, 2, 4, 0);
        x.lend(0, 2, 9, 0);
        x.lend(2, 1, 9, 0);
        dueOrder(x, 0, 1, 3, 2, 27);
        x.lend(0, 1, 1, 0);
        dueOrder(x, 0, 1, 3, 2, 27);
        x.pay(0);
        // The first four that are open: 1, 2, 3, 4.
        dueOrder(x, 1, 3, 2, 4, 23);
        // Owed 20, 16, 14 by b, who has 15, and 20 by c: most is paid as 14, 20, 20, and 16 never can be.
        x = PROBE.told("man a 99;man b 0;man c 99;tusk t 1 0;debt a b 10 t 0;debt a b 8 t 0;debt a b 7 t 0;"
            + "debt b c 10 t 0;rate 100;law pay 0;");
        x.go(10);
        dueOrder(x, 1, 2, 3, 0, 54);
    }

    private static void rests() {
        TuskLedger x = PROBE.told("man a 99;man b 0;man c 99;tusk t 1 0;law pay 0;");
        x.lend(0, 1, 40, 0);
        x.lend(2, 1, 40, 0);
        x.lend(1, 0, 60, 0);
        x.lend(0, 2, 1, 0);
        // The purse is 20: both at once 10 each, alone 20, who waits alone -1, both 9.
        PROBE.due("rests(0, 1)", x.rests(0, 1), 1);
        PROBE.due("rest(0, 1, 0)", x.rest(0, 1, 0), 0);
        PROBE.due("rest(0, 1, 1)", x.rest(0, 1, 1), -2);
        PROBE.due("rest(0, 1, -1)", x.rest(0, 1, -1), -1);
        PROBE.due("alike", x.rests(0, 0), -1);
        PROBE.due("unlike debtors", x.rests(0, 2), -1);
        PROBE.due("unlike debtors", x.rest(0, 3, 0), -1);
        PROBE.due("no such debt", x.rests(0, 4), -1);
        PROBE.due("no such debt", x.rests(-1, 0), -1);
        x.gift(1, 40);
        // The purse is 60: both at once 30 each, alone 40, who waits alone 19, both 29.
        PROBE.due("rest(0, 1, 0)", x.rest(0, 1, 0), 0);
        x = PROBE.told("man a 99;man b 0;man c 99;tusk t 1 0;law pay 0;");
        x.lend(0, 1, 30, 0);
        x.lend(2, 1, 4, 0);
        // The purse is 34: both at once 17 and 4; the first one waits alone: 29, the second one alone: 3.
        PROBE.due("rests(0, 1)", x.rests(0, 1), 1);
        PROBE.due("rest(0, 1, 0)", x.rest(0, 1, 0), 10);
        PROBE.due("rest(1, 0, 0)", x.rest(1, 0, 0), 1);
        PROBE.due("rest(1, 0, 1)", x.rest(1, 0, 1), -2);
        x = PROBE.told("man a 99;man b 0;man c 99;tusk t 1 0;law pay 0;");
        x.lend(0, 1, 5, 0);
        x.lend(2, 1, 5, 0);
        x.gift(1, 1);
        // 11 in the purse: both at once 5 each.
        PROBE.due("rests", x.rests(0, 1), 1);
        PROBE.due("rest", x.rest(0, 1, 0), 0);
        x.lend(1, 0, 2, 0);
        // 9: both at once 4 each, alone 5, who waits alone 3, both 3.
        PROBE.due("rest", x.rest(0, 1, 0), 0);
        x.pay(0);
        PROBE.due("not open", x.rests(0, 1), -1);
        PROBE.due("not open", x.rest(1, 0, 0), -1);
        x = PROBE.told("man a 99;man b 1;man c 99;tusk t 1 0;law pay 0;");
        x.lend(0, 1, 6, 0);
        x.lend(2, 1, 6, 0);
        x.lend(1, 0, 4, 0);
        // 9: both at once 4, alone 6, who waits alone 2, both 3.
        PROBE.due("rests", x.rests(0, 1), 1);
        x = PROBE.told("man a 99;man b 0;man c 99;tusk t 1 0;law pay 0;");
        x.lend(0, 1, 2, 0);
        x.lend(2, 1, 2, 0);
        x.lend(1, 0, 1, 0);
        // 3: both at once 1 each, alone 2, who waits alone 0, both 0: asking is best for each.
        PROBE.due("rests", x.rests(0, 1), 1);
        PROBE.due("rest", x.rest(0, 1, 0), 0);
        x = PROBE.told("man a 99;man b 0;man c 99;tusk t 1 0;rate 50;law pay 0;");
        x.lend(0, 1, 8, 0);
        x.lend(2, 1, 8, 0);
        x.lend(1, 0, 1, 0);
        // 15: both at once 7 each, alone 8, who waits alone 6, both 6.
        PROBE.due("rests", x.rests(0, 1), 1);
        x = twoRests();
        PROBE.due("rests", x.rests(0, 1), 2);
        PROBE.due("rest", x.rest(0, 1, 0), 0);
        PROBE.due("rest", x.rest(0, 1, 1), 10);
        PROBE.due("rest", x.rest(0, 1, 2), -2);
        PROBE.due("rests", x.rests(1, 0), 2);
        PROBE.due("rest", x.rest(1, 0, 1), 1);
    }

    /** The purse is 10, owed are 6 and 4: asking at once has 5, waiting alone 6 less 1: as much. */
    private static TuskLedger twoRests() {
        TuskLedger x = PROBE.told("man a 99;man b 0;man c 99;tusk t 1 0;law pay 0;");
        x.lend(0, 1, 6, 0);
        x.lend(2, 1, 4, 0);
        return x;
    }

    private static void lives() {
        TuskLedger x = PROBE.told("tusk t 70 0;tusk u 97 0;tusk v 1 0;tusk w 60 0;dies v 0;dies t 3;");
        PROBE.due("lives(0, 0, 0)", x.lives(0, 0, 0), 1);
        PROBE.due("lives(0, 0, 1)", x.lives(0, 0, 1), 1);
        PROBE.due("lives(0, 1, 0)", x.lives(0, 1, 0), 89);
        PROBE.due("lives(0, 1, 1)", x.lives(0, 1, 1), 100);
        // 89 of 100 and 88 of 100: 1958 of 2500.
        PROBE.due("lives(0, 2, 0)", x.lives(0, 2, 0), 979);
        PROBE.due("lives(0, 2, 1)", x.lives(0, 2, 1), 1250);
        // Age 98, 99, and 99 at most: 62, 61, 61 of a hundred.
        PROBE.due("lives(1, 3, 0)", x.lives(1, 3, 0), 31L * 61 * 61);
        PROBE.due("lives(1, 3, 1)", x.lives(1, 3, 1), 500000);
        PROBE.due("lives(3, 6, 1)", x.lives(3, 6, 1) > 1000000000L, true);
        PROBE.due("lives(0, 7, 0)", x.lives(0, 7, 0), -1);
        PROBE.due("lives(0, -1, 0)", x.lives(0, -1, 0), -1);
        PROBE.due("lives(0, 1, 2)", x.lives(0, 1, 2), -1);
        PROBE.due("lives(0, 1, -1)", x.lives(0, 1, -1), -1);
        PROBE.due("lives(4, 1, 0)", x.lives(4, 1, 0), -1);
        PROBE.due("lives(-1, 1, 0)", x.lives(-1, 1, 0), -1);
        x.go(1);
        PROBE.due("not alive", x.lives(2, 1, 0), -1);
        x = PROBE.told("tusk t 1 0;law die (age=4)*100+3;");
        PROBE.due("lives(0, 2, 0)", x.lives(0, 2, 0), 9409);
        PROBE.due("no chance", x.lives(0, 3, 0), 0);
        PROBE.due("no chance", x.lives(0, 3, 1), 1);
        x = PROBE.told("tusk t 1 0;law die 1;");
        PROBE.due("99 to the 6", x.lives(0, 6, 0), 941480149401L);
        PROBE.due("100 to the 6", x.lives(0, 6, 1), 1000000000000L);
        x = PROBE.told("tusk t 1 0;law die day*10;");
        x.go(3);
        PROBE.due("all else as now", x.lives(0, 2, 0), 49);
    }

    private static void before() {
        PROBE.due("none", new TuskLedger().before(0), -2);
        PROBE.due("none, another what", new TuskLedger().before(2), -1);
        TuskLedger x = PROBE.told("tusk t 1 0;tusk u 1 0;tusk v 1 0;dies t 3;dies u 7;dies v 5;law pass 0;");
        PROBE.due("before(0)", x.before(0), 1);
        PROBE.due("before(1)", x.before(1), 8);
        PROBE.due("before(2)", x.before(2), -1);
        PROBE.due("before(-1)", x.before(-1), -1);
        x.go(2);
        PROBE.due("before(1)", x.before(1), 6);
        x.go(6);
        PROBE.due("none is alive", x.before(0), -2);
        PROBE.due("none is alive", x.before(1), -2);
        // t leans on u, whatever the law of pass, and is cheaper.
        x = PROBE.told("tusk t 1 3;tusk u 1 4;tusk v 1 3;dies t 3;dies u 7;dies v 5;lean t u 2;law pass 0;");
        PROBE.due("before(0)", x.before(0), 0);
        PROBE.due("before(1)", x.before(1), 8);
        // Of several the one with fewest buns, of these the first.
        x = PROBE.told("tusk t 1 3;tusk u 1 2;tusk v 1 2;");
        PROBE.due("before(0)", x.before(0), 1);
        PROBE.due("before(1)", x.before(1), 99);
        // What is told before u is not counted: u lives with its one debt, as it goes, and would die with two.
        x = PROBE.told("man a 9;man b 0;tusk t 1 3;tusk u 1 2;debt a b 1 u 0;dies t 50;law pay 0;law die knows/2*100;");
        x.go(1);
        PROBE.due("before(0)", x.before(0), 1);
        PROBE.due("before(1)", x.before(1), 99);
        // Other debts go on: u dies of the second debt that is lent before it.
        x = PROBE.told("man a 9;man b 0;tusk t 1 3;tusk u 1 2;debt a b 1 u 0;debt a b 1 u 5;dies t 50;law pay 0;"
            + "law die knows/2*100;");
        x.go(1);
        PROBE.due("before(0)", x.before(0), 0);
        PROBE.due("before(1)", x.before(1), 50);
        // Nobody knows it any more behind 99 days, or never: both are 99, and the cheaper one goes ahead.
        x = PROBE.told("tusk t 1 3;tusk u 1 2;dies u 98;");
        PROBE.due("before(0)", x.before(0), 1);
        PROBE.due("before(1)", x.before(1), 99);
        x = PROBE.told("tusk t 1 3;tusk u 1 2;dies u 97;");
        PROBE.due("before(0)", x.before(0), 0);
    }

    private static void ring() {
        TuskLedger x = PROBE.told(sixMen("debt a b 5 t 0;debt b c 5 t 0;debt c d 5 t 0;debt d b 5 t 1;debt e f 5 t 2;"
            + "debt f e 5 t 3;"));
        PROBE.due("ring()", x.ring(), 0);
        x.go(1);
        PROBE.due("a chain", x.ring(), 0);
        x.go(1);
        PROBE.due("b, c, d", x.ring(), 14);
        x.go(2);
        PROBE.due("and e, f", x.ring(), 62);
        x.pay(1);
        PROBE.due("e, f", x.ring(), 48);
    }

    private static void oldest() {
        TuskLedger x = PROBE.told("man a 9;man b 0;tusk t 5 0;tusk u 7 0;tusk v 7 0;debt a b 1 t 0;debt a b 1 v 0;"
            + "lean t v 1;lean t u 2;law pay 0;");
        PROBE.due("nobody knows it", x.oldest(0), -2);
        x.go(1);
        PROBE.due("oldest(0)", x.oldest(0), 0);
        PROBE.due("oldest(1)", x.oldest(1), 2);
        x.go(1);
        PROBE.due("oldest(0)", x.oldest(0), 2);
        x.go(1);
        PROBE.due("the first of several", x.oldest(0), 1);
        x.pay(0);
        PROBE.due("paid", x.oldest(0), -2);
        PROBE.due("oldest(2)", x.oldest(2), -1);
        PROBE.due("oldest(-1)", x.oldest(-1), -1);
    }

    private static void chance() {
        // From seed 0 on, of a hundred: 0, 68, 88, 17, 11, 56, 39, 52, 48, 34.
        TuskLedger x = PROBE.told("tusk t 1 0;tusk u 1 0;law die (age>1)*50;seed 9;");
        long state = 0;
        int[] drawn = new int[40];
        for (int i = 0; i < 40; i++) {
            state = (state * 1103515245L + 12345L) % 2147483648L;
            drawn[i] = (int) (state / 65536 % 100);
        }
        int first = 0;
        int second = 0;
        for (int i = 0; i < 10; i++) {
            first += drawn[2 * i] >= 50 ? 1 : 0;
            second += drawn[2 * i + 1] >= 50 ? 1 : 0;
        }
        PROBE.due("chance(0, 10, 0)", x.chance(0, 10, 0), first);
        PROBE.due("chance(0, 10, 1)", x.chance(0, 10, 1), second);
        PROBE.due("chance(0, 9, 0)", x.chance(0, 9, 0), 10);
        PROBE.due("again", x.chance(0, 10, 0), first);
        PROBE.due("numbers that go on are as ever", numberOf(x), 1);
        PROBE.due("chance(-1, 10, 0)", x.chance(-1, 10, 0), -1);
        PROBE.due("chance(0, 0, 0)", x.chance(0, 0, 0), -1);
        PROBE.due("chance(0, 100, 0)", x.chance(0, 100, 0), -1);
        PROBE.due("chance(0, 1, 2)", x.chance(0, 1, 2), -1);
        PROBE.due("chance(0, 1, -1)", x.chance(0, 1, -1), -1);
        x = PROBE.told("tusk t 1 0;tusk u 1 0;dies u 0;");
        PROBE.due("chance(2147483647, 99, 0)", x.chance(2147483647, 99, 0), 10);
        PROBE.due("dies as told", x.chance(5, 1, 1), 0);
        x.go(1);
        PROBE.due("dead", x.chance(5, 1, 1), 0);
    }

    /** Whether t lives by the first number behind the text's seed 9, which chance() leaves as it is. */
    private static int numberOf(TuskLedger x) {
        x.image();
        x.go(10);
        int alive = x.tusk(0, 2);
        x.back();
        long state = (9 * 1103515245L + 12345L) % 2147483648L;
        return alive == (state / 65536 % 100 >= 50 ? 1 : 0) ? 1 : 0;
    }

    private static void tried() {
        String head = "man a 90;man b 0;tusk t 1 0;tusk u 1 0;debt a b 9 t 0;debt a b 8 u 2;debt a b 7 t 9;";
        TuskLedger x = PROBE.told(head + "lean t u 3;dies t 5;law pay day>=8;");
        PROBE.due("as it goes", x.tried(0, 0, 20), 0);
        PROBE.due("nobody dies", x.tried(1, 0, 20), 0);
        PROBE.due("t knows nothing", x.tried(2, 0, 20), 1);
        PROBE.due("u knows nothing", x.tried(2, 1, 20), 2);
        PROBE.due("u knows nothing, for 3 days", x.tried(2, 1, 3), 1);
        PROBE.due("u knows nothing, for 2 days", x.tried(2, 1, 2), 0);
        PROBE.due("nobody leans", x.tried(3, 0, 20), 1);
        PROBE.due("nobody pays", x.tried(4, 0, 20), 0);
        PROBE.due("all know all that is open now: none is yet", x.tried(5, 0, 20), 0);
        x = PROBE.told(head + "dies t 5;dies u 9;law pay day>=50;");
        PROBE.due("as it goes", x.tried(0, 0, 20), 2);
        PROBE.due("for 6 days", x.tried(0, 0, 6), 1);
        PROBE.due("for 5 days", x.tried(0, 0, 5), 0);
        PROBE.due("nobody dies", x.tried(1, 0, 20), 0);
        x.go(1);
        PROBE.due("all know all that is open now", x.tried(5, 0, 8), 0);
        PROBE.due("all know all, till both died", x.tried(5, 0, 9), 2);
        PROBE.due("as it goes, t's own is forgiven", x.tried(0, 0, 8), 1);
        x.go(5);
        PROBE.due("how many more", x.tried(0, 0, 20), 1);
        PROBE.due("t died, and knows nothing", x.tried(2, 0, 20), 1);
        // By numbers nobody dies either.
        x = PROBE.told(head + "law pay 0;law die 100;");
        PROBE.due("all die", x.tried(0, 0, 20), 3);
        PROBE.due("nobody dies", x.tried(1, 0, 20), 0);
        // Nobody pays: what was paid on day 0 is forgiven on day 5.
        x = PROBE.told(head + "dies t 5;law pay 1;");
        PROBE.due("as it goes", x.tried(0, 0, 20), 0);
        PROBE.due("nobody pays", x.tried(4, 0, 20), 1);
        PROBE.due("tried(6, 0, 1)", x.tried(6, 0, 1), -1);
        PROBE.due("tried(-1, 0, 1)", x.tried(-1, 0, 1), -1);
        PROBE.due("tried(0, 1, 1)", x.tried(0, 1, 1), -1);
        PROBE.due("tried(5, 1, 1)", x.tried(5, 1, 1), -1);
        PROBE.due("tried(2, 2, 1)", x.tried(2, 2, 1), -1);
        PROBE.due("tried(2, -1, 1)", x.tried(2, -1, 1), -1);
        PROBE.due("tried(0, 0, -1)", x.tried(0, 0, -1), -1);
        PROBE.due("tried(0, 0, 100)", x.tried(0, 0, 100), -1);
        PROBE.due("tried(2, 0, 0)", x.tried(2, 0, 0), 0);
    }
}
