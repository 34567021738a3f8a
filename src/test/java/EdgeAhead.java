/** Edges of what comes and what could: the terms of paragraph 3 and promises 15 to 25, sentence by sentence. */
final class EdgeAhead {
    private static final int[] WILD = {-1, -2, 8, 100, Integer.MAX_VALUE, Integer.MIN_VALUE};
    private static final String HERD = "tusk t 1 0;tusk u 1 0;tusk v 1 0;";
    private static final String TWO = "man a 99;man b 0;" + HERD;
    private static final String THREE = "man a 99;man b 0;man c 99;tusk t 1 0;law pay 0;";
    private static final String SIX = "man a 99;man b 99;man c 99;man d 99;man e 99;man f 99;tusk t 1 0;law pay 0;";

    private final Probe probe;

    EdgeAhead(Probe probe) {
        this.probe = probe;
    }

    void run() {
        ahead();
        aheadOfDays();
        aheadNone();
        ends();
        endsNotByThen();
        endsNone();
        net();
        clear();
        clearCall();
        keep();
        keepOfDays();
        keepByNone();
        keepNone();
        with();
        order();
        orderOfWhat();
        orderNone();
        ask();
        aRest();
        rowOfRests();
        restsNone();
        restOfK();
        restTooFew();
        restNone();
        lives();
        livesInLeastTerms();
        livesNone();
        beforeLongest();
        beforeWhatever();
        beforeCheapest();
        beforeOfWhat();
        ring();
        ringCall();
        oldest();
        oldestNone();
    }

    private TuskLedger gone(String text, int days) {
        TuskLedger x = probe.told(text);
        x.go(days);
        return x;
    }

    private void ahead() {
        probe.sentence("Terms", "AHEAD for n DAYS as it goes: how many DEBTS more are PAID, FORGIVEN, REFUSED; PURSE of a "
            + "MAN then; how many ELEPHANTS are ALIVE then.");
        TuskLedger x = probe.told(TWO + "debt a b 1 t 0;debt a b 2 u 0;debt b a 99 t 0;debt a b 1 t 3;debt a b 2 v 3;"
            + "debt b a 99 t 3;dies u 0;dies v 3;law pay sum=1;");
        for (int what = 0; what <= 2; what++) {
            probe.due("ahead(0, " + what + ")", x.ahead(0, what, 0), 0);
            probe.due("ahead(1, " + what + ")", x.ahead(1, what, 0), 1);
            probe.due("ahead(3, " + what + ")", x.ahead(3, what, 0), 1);
            probe.due("ahead(4, " + what + ")", x.ahead(4, what, 0), 2);
        }
        probe.due("ahead(0, 3)", x.ahead(0, 3, 0), 99);
        probe.due("ahead(4, 3)", x.ahead(4, 3, 0), 95);
        probe.due("ahead(0, 4)", x.ahead(0, 4, 0), 3);
        probe.due("ahead(1, 4)", x.ahead(1, 4, 0), 2);
        probe.due("ahead(4, 4)", x.ahead(4, 4, 0), 1);
        x.go(1);
        for (int what = 0; what <= 2; what++) {
            probe.due("more: ahead(0, " + what + ")", x.ahead(0, what, 0), 0);
            probe.due("more: ahead(3, " + what + ")", x.ahead(3, what, 0), 1);
        }
        probe.due("nothing went by", x.count(4), 1);
        probe.due("nothing was paid", x.count(6), 1);
        // Each elephant learns of what is lent before it, and of what is passed on to it.
        String herd = "man a 99;man b 0;" + HERD + "tusk w 1 0;tusk x 1 0;tusk y 1 0;law pay 0;";
        for (String name : new String[] {"t", "u", "v", "w", "x", "y"}) {
            probe.due("lent before " + name, probe.told(herd + "debt a b 1 " + name + " 3;").ahead(9, 1, 0), 0);
            String other = name.equals("t") ? "u" : "t";
            probe.due("passed on to " + name, probe.told(herd + "debt a b 1 " + other + " 3;lean " + other + " " + name
                + " 4;dies " + other + " 5;").ahead(9, 1, 0), 0);
        }
    }

    private void aheadOfDays() {
        probe.sentence("15", "AHEAD (n 0 .. 99), what 0 PAID, 1 FORGIVEN, 2 REFUSED, 3 PURSE of a MAN (else that isn't "
            + "looked at), 4 ALIVE.");
        TuskLedger x = probe.told(TWO + "debt a b 5 t 98;debt a b 6 u 99;dies t 98;law pay 0;");
        probe.due("ahead(98, 1)", x.ahead(98, 1, 0), 0);
        probe.due("ahead(99, 1)", x.ahead(99, 1, 0), 1);
        probe.due("ahead(99, 3)", x.ahead(99, 3, 1), 5);
        for (int any : WILD) {
            probe.due("ahead(99, 4, " + any + ")", x.ahead(99, 4, any), 2);
            probe.due("ahead(0, 0, " + any + ")", x.ahead(0, 0, any), 0);
            probe.due("ahead(99, 1, " + any + ")", x.ahead(99, 1, any), 1);
            probe.due("ahead(99, 2, " + any + ")", x.ahead(99, 2, any), 0);
        }
        TuskLedger last = new TuskLedger();
        for (int i = 0; i < 100; i++) {
            last.go(99);
        }
        probe.due("behind day 9900", last.ahead(99, 4, 0), 0);
    }

    private void aheadNone() {
        probe.sentence("15", "NONE: no such ones.");
        TuskLedger x = probe.told(TWO);
        for (int none : WILD) {
            probe.due("ahead(" + none + ", 0, 0)", x.ahead(none, 0, 0), none == 8 ? 0 : -1);
            probe.due("ahead(1, " + none + ", 0)", x.ahead(1, none, 0), -1);
            probe.due("ahead(1, 3, " + none + ")", x.ahead(1, 3, none), -1);
        }
        probe.due("ahead(1, 5, 0)", x.ahead(1, 5, 0), -1);
        probe.due("ahead(1, 3, 2)", x.ahead(1, 3, 2), -1);
    }

    private void ends() {
        probe.sentence("Terms", "ENDS of a DEBT: in how many DAYS as it goes, 99 at most (1: this one), it is none that is "
            + "TO COME or OPEN (0: now).");
        TuskLedger x = gone(TWO + "debt a b 1 t 0;debt b a 99 t 0;debt a b 2 t 1;debt b a 99 t 1;debt a b 3 v 1;"
            + "debt a b 4 v 0;dies v 1;law pay sum=1 or sum=2;", 1);
        probe.due("PAID now", x.ends(0), 0);
        probe.due("REFUSED now", x.ends(1), 0);
        probe.due("lent and PAID this day", x.ends(2), 1);
        probe.due("REFUSED this day", x.ends(3), 1);
        probe.due("lent and FORGIVEN this day", x.ends(4), 1);
        probe.due("FORGIVEN this day", x.ends(5), 1);
        x.go(1);
        probe.due("FORGIVEN now", x.ends(5), 0);
        x = probe.told(TWO + "debt a b 1 t 0;law pay day=98;");
        probe.due("in 99 days", x.ends(0), 99);
        probe.due("nothing went by", x.count(4), 0);
    }

    private void endsNotByThen() {
        probe.sentence("16", "-2: not by then;");
        probe.due("in 100 days", probe.told(TWO + "debt a b 1 t 0;law pay day=99;").ends(0), -2);
        probe.due("in 100 days, TO COME till then", probe.told(TWO + "debt b a 1 t 99;").ends(0), -2);
        probe.due("in 99 days", probe.told(TWO + "debt b a 1 t 98;").ends(0), 99);
        probe.due("in 99 days, a day later", gone(TWO + "debt a b 1 t 0;law pay day=99;", 1).ends(0), 99);
        probe.due("never", probe.told(TWO + "debt a b 1 t 0;law pay 0;").ends(0), -2);
    }

    private void endsNone() {
        probe.sentence("16", "NONE: no such DEBT.");
        TuskLedger x = probe.told(TWO + "debt a b 1 t 0;");
        for (int none : WILD) {
            probe.due("ends(" + none + ")", x.ends(none), -1);
        }
        probe.due("ends(1)", x.ends(1), -1);
    }

    private void net() {
        probe.sentence("Terms", "NET of a MAN: what is OWED to, less what is OWED by that one (of OPEN ones).");
        TuskLedger x = gone("man a 99;man b 20;man c 0;" + HERD + "debt a b 10 t 0;debt b c 4 t 0;debt a b 6 t 5;"
            + "debt c a 99 t 0;debt a b 3 v 0;dies v 0;rate 50;law pay 0;", 1);
        probe.due("a", x.man(0, 1), 10);
        probe.due("b", x.man(1, 1), -6);
        probe.due("c", x.man(2, 1), -4);
        x.go(9);
        probe.due("a with interest", x.man(0, 1), 15 + 9);
        probe.due("b with interest", x.man(1, 1), 6 - 24);
        x.pay(0);
        probe.due("one is PAID", x.man(0, 1), 9);
    }

    private void clear() {
        probe.sentence("Terms", "CLEAR: the fewest payings from one MAN to another one by which all NETS are 0.");
        probe.due("a ring of equal sums", gone(SIX + "debt a b 5 t 0;debt b c 5 t 0;debt c a 5 t 0;", 1).clear(), 0);
        probe.due("one", gone(SIX + "debt a b 5 t 0;", 1).clear(), 1);
        probe.due("a chain", gone(SIX + "debt a b 5 t 0;debt b c 5 t 0;debt c d 5 t 0;debt d e 5 t 0;debt e f 5 t 0;", 1)
            .clear(), 1);
        probe.due("one to five", gone(SIX + "debt a b 1 t 0;debt a c 2 t 0;debt a d 4 t 0;debt a e 8 t 0;"
            + "debt a f 16 t 0;", 1).clear(), 5);
        probe.due("three pairs", gone(SIX + "debt a b 1 t 0;debt c d 2 t 0;debt e f 4 t 0;", 1).clear(), 3);
        // Nets 5, 7 less 2, 3, 3, 4: the greatest first would be 7 to 4, 5 to 3, 3 to 3, 2 to 2: two groups do.
        probe.due("two groups of three", gone(SIX + "debt a c 2 t 0;debt a d 3 t 0;debt b e 3 t 0;debt b f 4 t 0;", 1)
            .clear(), 4);
        probe.due("1, and none of the first man", gone(SIX + "debt b c 1 t 0;", 1).clear(), 1);
        probe.due("1 of the first man", gone(SIX + "debt b a 1 t 0;", 1).clear(), 1);
        // The pairs may stand in any places.
        String[] pairs = {"a f", "b e", "c d"};
        String[] across = {"a d", "b e", "c f"};
        for (String[] row : new String[][] {pairs, across}) {
            TuskLedger x = gone(SIX + "debt " + row[0] + " 1 t 0;debt " + row[1] + " 2 t 0;debt " + row[2] + " 4 t 0;", 1);
            probe.due("three pairs", x.clear(), 3);
            x.pay(2);
            probe.due("two pairs", x.clear(), 2);
            x.undo();
            x.pay(0);
            probe.due("two other pairs", x.clear(), 2);
            // a has 7, b less 5, the one who owes b less 2: these three are 0 in sum, and so is the pair.
            x.lend(0, 1, 7, 0);
            probe.due("a group of three and a pair", x.clear(), 3);
        }
        probe.due("two are owed 1, one owes 2", gone(SIX + "debt a c 1 t 0;debt b c 1 t 0;", 1).clear(), 2);
        // Nets 6, 3 less 4, 5: no group inside.
        probe.due("four men", gone(SIX + "debt a c 4 t 0;debt a d 2 t 0;debt b d 3 t 0;", 1).clear(), 3);
    }

    private void clearCall() {
        probe.sentence("17", "CLEAR.");
        probe.due("of a new object", new TuskLedger().clear(), 0);
        TuskLedger x = probe.told(SIX + "debt a b 5 t 0;");
        probe.due("TO COME", x.clear(), 0);
        x.go(1);
        probe.due("OPEN", x.clear(), 1);
        x.pay(0);
        probe.due("PAID", x.clear(), 0);
        // What an earlier text's men owed is nobody's any more.
        x.undo();
        probe.due("OPEN again", x.clear(), 1);
        x.text(0);
        probe.due("of no MEN", x.clear(), 0);
    }

    private void keep() {
        probe.sentence("Terms", "KEEP of a DEBT that is OPEN for n DAYS: the fewest ELEPHANTS that are ALIVE (bits, of "
            + "several the least) such that, if those and no others KNOW it now, somebody KNOWS it behind these DAYS as "
            + "it goes, or it is PAID by then.");
        TuskLedger x = gone(TWO + "debt a b 9 v 0;dies t 0;law pay 0;", 1);
        probe.due("t died, of u and v the least", x.keep(0, 5), 2);
        x = gone(TWO + "debt a b 9 v 0;dies u 2;dies t 4;law pay 0;", 1);
        probe.due("t, behind 3 days", x.keep(0, 3), 1);
        probe.due("v, behind 4 days", x.keep(0, 4), 4);
        // u leans on v ahead of all deaths: one is enough.
        x = gone(TWO + "debt a b 9 t 0;lean u v 1;dies t 1;dies u 1;law pay 0;", 1);
        probe.due("u tells v", x.keep(0, 1), 2);
        // No others: by the law two must know it to pass it on, or to pay it.
        x = gone(TWO + "debt a b 9 t 0;lean u v 1;dies t 1;dies u 1;dies v 2;law pass known>=2;law pay known=2 and day=1;",
            1);
        probe.due("v alone", x.keep(0, 1), 4);
        // On day 1 t and u die ahead of the paying, and v knows it with none of these.
        probe.due("none lasts", x.keep(0, 2), -2);
        // Two of three, of several the least; nobody else is as good.
        x = gone(TWO + "debt a b 9 t 0;dies t 2;dies u 2;dies v 2;law pay known=2;", 1);
        probe.due("t and u, and it is PAID", x.keep(0, 2), 3);
        probe.due("one, for a day", x.keep(0, 1), 1);
        x = gone(TWO + "debt a b 9 t 0;dies t 2;dies u 2;dies v 2;law pay known=3;", 1);
        probe.due("all three", x.keep(0, 2), 7);
        x = gone(TWO + "tusk w 1 0;tusk x 1 0;tusk y 1 0;debt a b 9 t 0;dies t 2;dies u 2;dies v 2;dies w 2;dies x 2;"
            + "dies y 2;law pay known=6;", 1);
        probe.due("all six", x.keep(0, 2), 63);
        // u tells t, who is left.
        x = gone(TWO + "debt a b 9 u 0;lean u t 1;dies t 9;dies u 1;dies v 1;law pay known=1 and day=5;", 1);
        probe.due("t itself", x.keep(0, 3), 1);
        x = gone(TWO + "debt a b 9 u 0;lean u t 1;dies t 9;dies u 4;dies v 1;law pay known=2 and day=3;", 1);
        probe.due("u and t know it, and it is PAID", x.keep(0, 20), 2);
        x = gone(TWO + "debt a b 9 t 0;law pay day=1;", 1);
        probe.due("nobody: it is PAID this day", x.keep(0, 1), 0);
        probe.due("who KNOWS it is as it was", x.debt(0, 7), 1);
    }

    private void keepOfDays() {
        probe.sentence("18", "KEEP (n 0 .. 60; bits);");
        TuskLedger x = gone(TWO + "debt a b 9 v 0;dies t 60;dies u 61;law pay 0;", 1);
        probe.due("keep(0, 0)", x.keep(0, 0), 1);
        probe.due("keep(0, 59)", x.keep(0, 59), 1);
        probe.due("keep(0, 60)", x.keep(0, 60), 2);
    }

    private void keepByNone() {
        probe.sentence("18", "-2: by none, it isn't OPEN;");
        TuskLedger x = gone(TWO + "debt a b 9 t 0;debt a b 1 t 50;debt b a 99 t 0;debt a b 2 v 0;dies v 0;dies t 5;dies u 5;"
            + "law pay 0;", 1);
        probe.due("behind 4 days", x.keep(0, 4), 1);
        probe.due("by none, behind 5 days", x.keep(0, 5), -2);
        probe.due("TO COME", x.keep(1, 0), -2);
        probe.due("REFUSED", x.keep(2, 0), -2);
        probe.due("FORGIVEN", x.keep(3, 0), -2);
        x.pay(0);
        probe.due("PAID", x.keep(0, 0), -2);
    }

    private void keepNone() {
        probe.sentence("18", "NONE: no such ones.");
        TuskLedger x = gone(TWO + "debt a b 9 t 0;debt a b 9 t 50;law pay 0;", 1);
        for (int none : new int[] {-1, 61, Integer.MAX_VALUE, Integer.MIN_VALUE}) {
            probe.due("keep(0, " + none + ")", x.keep(0, none), -1);
            probe.due("keep(1, " + none + "), TO COME", x.keep(1, none), -1);
            probe.due("keep(" + none + ", 0)", x.keep(none, 0), -1);
        }
        probe.due("keep(2, 0)", x.keep(2, 0), -1);
    }

    private void with() {
        probe.sentence("Terms", "WITH an ELEPHANT: DEBTS (bits) that it alone KNOWS.");
        TuskLedger x = gone(TWO + "debt a b 5 t 0;debt a b 6 t 0;debt a b 7 u 0;lean t u 1;law pass sum=6;law pay 0;", 1);
        probe.due("t", x.tusk(0, 4), 3);
        probe.due("u", x.tusk(1, 4), 4);
        probe.due("v", x.tusk(2, 4), 0);
        x.go(1);
        probe.due("t", x.tusk(0, 4), 1);
        probe.due("u", x.tusk(1, 4), 4);
        x.pay(0);
        probe.due("t, PAID", x.tusk(0, 4), 0);
    }

    private void dueOrder(String what, TuskLedger x, int first, int second, int third, int fourth, int sum) {
        int[] want = {first, second, third, fourth, sum};
        for (int i = 0; i <= 4; i++) {
            probe.due(what + ": order(" + i + ")", x.order(i), want[i]);
        }
    }

    private void order() {
        probe.sentence("Terms", "ORDER of the first four DEBTS that are OPEN: paid now one behind another, each if the "
            + "DEBTOR's PURSE has it then, in the row by which most is paid in sum, of several the first by DEBTS.");
        TuskLedger x = probe.told("man a 40;man b 0;man c 0;tusk t 1 0;law pay 0;");
        x.lend(0, 1, 10, 0);
        x.lend(1, 2, 10, 0);
        x.lend(2, 0, 10, 0);
        // b can pay a only behind c, c only behind a.
        dueOrder("one behind another", x, 2, 1, 0, -2, 30);
        x.lend(0, 1, 1, 0);
        x.lend(0, 1, 2, 0);
        x.lend(0, 1, 3, 0);
        // b has 6 now: the fifth and sixth don't count, though they could be paid.
        dueOrder("the first four", x, 2, 1, 0, 3, 31);
        x.pay(2);
        // Debts 0, 1, 3, 4: c pays b, b pays all; of the rows by which 23 are paid the first.
        dueOrder("OPEN ones", x, 1, 0, 3, 4, 23);
        x = probe.told("man a 99;man b 0;tusk t 1 0;law pay 0;");
        x.lend(0, 1, 7, 0);
        x.lend(0, 1, 7, 0);
        x.lend(0, 1, 7, 0);
        x.lend(1, 0, 8, 0);
        // b has 13, a has 86 and pays 8: then all are paid, whichever comes first.
        dueOrder("of several the first", x, 0, 3, 1, 2, 29);
        // b has 15 and owes 7, 10, 5; a owes b 7: all is paid, if 10 comes behind that.
        x = gone("man a 50;man b 0;tusk t 1 0;debt a b 7 t 0;debt a b 10 t 0;debt a b 5 t 0;debt b a 7 t 0;law pay 0;", 1);
        dueOrder("each if the PURSE has it then", x, 0, 2, 3, 1, 29);
        // b has 22 and owes 14, 20, 10: no two can be paid.
        x = gone("man a 50;man b 0;tusk t 1 0;debt a b 7 t 0;debt a b 10 t 0;debt a b 5 t 0;rate 100;law pay 0;", 10);
        dueOrder("most in sum", x, 1, 0, 2, -2, 20);
    }

    private void orderOfWhat() {
        probe.sentence("19", "ORDER, what 0 .. 3: the DEBT paid first, and so on (-2: not so many), 4: what is paid in sum.");
        TuskLedger x = probe.told(SIX);
        dueOrder("none", x, -2, -2, -2, -2, 0);
        x.lend(0, 1, 1, 0);
        dueOrder("one", x, 0, -2, -2, -2, 1);
        x.lend(2, 3, 2, 0);
        dueOrder("two", x, 0, 1, -2, -2, 3);
        x.lend(4, 5, 4, 0);
        dueOrder("three", x, 0, 1, 2, -2, 7);
        x.lend(0, 1, 8, 0);
        dueOrder("four", x, 0, 1, 2, 3, 15);
        x.lend(0, 1, 16, 0);
        dueOrder("five", x, 0, 1, 2, 3, 15);
    }

    private void orderNone() {
        probe.sentence("19", "NONE for another what.");
        for (int none : WILD) {
            probe.due("order(" + none + ")", new TuskLedger().order(none), -1);
        }
        probe.due("order(5)", new TuskLedger().order(5), -1);
    }

    /** What a and c ask of b, who owes the one and the other and has so much in the purse. */
    private TuskLedger asked(int one, int other, int purse) {
        TuskLedger x = probe.told("man a 99;man b 0;man c 99;tusk t 1 0;law pay 0;");
        x.lend(0, 1, one, 0);
        x.lend(2, 1, other, 0);
        int spare = one + other - purse;
        if (spare > 0) {
            x.lend(1, 0, spare, 0);
        } else if (spare < 0) {
            x.gift(1, -spare);
        }
        probe.due("the purse of b", x.man(1, 0), purse);
        return x;
    }

    private void dueRests(String what, TuskLedger x, int... want) {
        probe.due(what + ": rests", x.rests(0, 1), want.length);
        for (int k = 0; k < want.length; k++) {
            probe.due(what + ": rest " + k, x.rest(0, 1, k), want[k]);
        }
    }

    private void ask() {
        probe.sentence("Terms", "ASK of two DEBTS that are OPEN with one DEBTOR: each asks now (0) or waits (1): who asks "
            + "alone has OWED, no more than the PURSE has; both at once each OWED, no more than half the PURSE, cut; who "
            + "waits alone has OWED, no more than what the other one leaves, less 1; both who wait as both at once, less 1.");
        // 12: both at once 6 and 5; who waits alone 7 less 1, as much as at once.
        dueRests("7, 5 of 12", asked(7, 5, 12), 0, 10);
        // 11: half of it is 5, cut; who waits alone 6 less 1: as much.
        dueRests("7, 5 of 11", asked(7, 5, 11), 0, 10);
        // 13: half of it is 6, cut; who waits alone 7 less 1: as much.
        dueRests("7, 5 of 13", asked(7, 5, 13), 0, 10);
        // 14: half of it is 7: who waits alone 7 less 1.
        dueRests("7, 5 of 14", asked(7, 5, 14), 0);
        // 12: both at once 6 and 4, who waits alone 8 less 1.
        dueRests("8, 4 of 12", asked(8, 4, 12), 10);
        dueRests("4, 8 of 12", asked(4, 8, 12), 1);
        // OWED is no more than half the purse: waiting has 1 less, and both who wait could ask.
        dueRests("5, 5 of 99", asked(5, 5, 99), 0);
        // The purse is empty: who asks has nothing, who waits has less.
        dueRests("5, 5 of 0", asked(5, 5, 0), 0);
        dueRests("5, 5 of 1", asked(5, 5, 1), 0);
        // OWED of one is more than the purse: nothing is left.
        dueRests("50, 40 of 30", asked(50, 40, 30), 0);
    }

    private void aRest() {
        probe.sentence("Terms", "A REST: neither would have more otherwise.");
        // As much otherwise is a rest yet, 1 more isn't.
        dueRests("6, 4 of 10", asked(6, 4, 10), 0, 10);
        dueRests("7, 3 of 10", asked(7, 3, 10), 10);
        dueRests("5, 5 of 10", asked(5, 5, 10), 0);
    }

    private void rowOfRests() {
        probe.sentence("Terms", "RESTS: by the first one's, then the second one's.");
        dueRests("6, 4 of 10", asked(6, 4, 10), 0, 10);
        dueRests("4, 6 of 10", asked(4, 6, 10), 0, 1);
        TuskLedger x = asked(4, 6, 10);
        probe.due("rest(1, 0, 0)", x.rest(1, 0, 0), 0);
        probe.due("rest(1, 0, 1)", x.rest(1, 0, 1), 10);
    }

    private TuskLedger notAsked() {
        TuskLedger x = gone(THREE + "debt a b 5 t 0;debt c b 6 t 0;debt b a 1 t 0;debt a b 7 t 9;debt b c 99 t 0;", 1);
        x.lend(2, 1, 8, 0);
        x.pay(5);
        return x;
    }

    private void restsNone() {
        probe.sentence("20", "NONE: no such DEBTS, alike, not OPEN, unlike DEBTORS.");
        TuskLedger x = notAsked();
        probe.due("rests(0, 1)", x.rests(0, 1), 1);
        for (int none : WILD) {
            probe.due("rests(0, " + none + ")", x.rests(0, none), -1);
            probe.due("rests(" + none + ", 0)", x.rests(none, 0), -1);
        }
        probe.due("rests(0, 6)", x.rests(0, 6), -1);
        probe.due("alike", x.rests(0, 0), -1);
        probe.due("unlike debtors", x.rests(0, 2), -1);
        probe.due("unlike debtors", x.rests(2, 1), -1);
        for (int other : new int[] {3, 4, 5}) {
            probe.due("not OPEN: rests(0, " + other + ")", x.rests(0, other), -1);
            probe.due("not OPEN: rests(" + other + ", 0)", x.rests(other, 0), -1);
        }
    }

    private void restOfK() {
        probe.sentence("21", "The k-th: ten times the first one's and the second one's;");
        probe.due("asks, asks", asked(5, 5, 10).rest(0, 1, 0), 0);
        probe.due("asks, waits", asked(3, 7, 10).rest(0, 1, 0), 1);
        probe.due("waits, asks", asked(7, 3, 10).rest(0, 1, 0), 10);
    }

    private void restTooFew() {
        probe.sentence("21", "-2: there are no so many;");
        TuskLedger x = asked(6, 4, 10);
        probe.due("rest(0, 1, 1)", x.rest(0, 1, 1), 10);
        for (int k : new int[] {2, 3, 4, 5, Integer.MAX_VALUE}) {
            probe.due("rest(0, 1, " + k + ")", x.rest(0, 1, k), -2);
        }
        probe.due("of one: rest(0, 1, 1)", asked(5, 5, 10).rest(0, 1, 1), -2);
    }

    private void restNone() {
        probe.sentence("21", "NONE likewise, k is below 0.");
        TuskLedger x = notAsked();
        probe.due("rest(0, 1, 0)", x.rest(0, 1, 0), 0);
        probe.due("rest(0, 1, -1)", x.rest(0, 1, -1), -1);
        probe.due("rest(0, 1, MIN)", x.rest(0, 1, Integer.MIN_VALUE), -1);
        for (int none : WILD) {
            probe.due("rest(0, " + none + ", 0)", x.rest(0, none, 0), -1);
            probe.due("rest(" + none + ", 0, 9)", x.rest(none, 0, 9), -1);
        }
        for (int other : new int[] {0, 2, 3, 4, 5, 6}) {
            probe.due("rest(0, " + other + ", 0)", x.rest(0, other, 0), -1);
        }
    }

    private void dueLives(String what, TuskLedger x, int n, long above, long below) {
        probe.due(what + ", above", x.lives(0, n, 0), above);
        probe.due(what + ", below", x.lives(0, n, 1), below);
    }

    private void lives() {
        probe.sentence("Terms", "LIVES of an ELEPHANT for n tenth DAYS: how likely it lives through these by E of die with "
            + "AGE 1 more each time (all else as now), as a fraction.");
        dueLives("AGE 1 more", probe.told("tusk t 6 0;law die age;"), 1, 93, 100);
        dueLives("AGE 1 more each time", probe.told("tusk t 6 0;law die age;"), 2, 93 * 23, 100 * 25);
        // 98, 99 and no more: 62, 61, 61 of a hundred.
        dueLives("99 at most", probe.told("tusk t 97 0;"), 3, 31L * 61 * 61, 500000);
        dueLives("with an ERROR", probe.told("tusk t 69 0;law die 1/0;"), 1, 9, 10);
        dueLives("0 at least", probe.told("tusk t 3 0;"), 6, 1, 1);
        dueLives("below 0 is 0", probe.told("tusk t 3 0;law die 0-50;"), 6, 1, 1);
        dueLives("above 100 is 100", probe.told("tusk t 3 0;law die 150;"), 2, 0, 1);
        dueLives("50 of a hundred", probe.told("tusk t 3 0;law die 50;"), 1, 1, 2);
        TuskLedger x = gone(TWO + "debt a b 9 t 0;dies t 5;law pay 0;law die knows*10+day;", 3);
        dueLives("all else as now", x, 2, 87 * 87, 10000);
    }

    private void livesInLeastTerms() {
        probe.sentence("22", "LIVES (n 0 .. 6) in least terms, what 0: the number above, 1: the one below.");
        dueLives("n 0", probe.told("tusk t 3 0;law die 100;"), 0, 1, 1);
        dueLives("n 6", probe.told("tusk t 3 0;law die 1;"), 6, 941480149401L, 1000000000000L);
        dueLives("n 6, half each", probe.told("tusk t 3 0;law die 50;"), 6, 1, 64);
        dueLives("never", probe.told("tusk t 3 0;law die 100;"), 6, 0, 1);
        dueLives("2 of 5 and 3 of 5", probe.told("tusk t 3 0;law die 60-(age>4)*20;"), 2, 6, 25);
    }

    private void livesNone() {
        probe.sentence("22", "NONE: no such ones, not ALIVE.");
        TuskLedger x = gone(HERD + "dies v 0;", 1);
        for (int none : WILD) {
            probe.due("lives(" + none + ", 1, 0)", x.lives(none, 1, 0), -1);
            probe.due("lives(0, " + none + ", 0)", x.lives(0, none, 0), -1);
            probe.due("lives(0, 1, " + none + ")", x.lives(0, 1, none), -1);
        }
        probe.due("lives(3, 1, 0)", x.lives(3, 1, 0), -1);
        probe.due("lives(0, 7, 0)", x.lives(0, 7, 0), -1);
        probe.due("lives(0, 1, 2)", x.lives(0, 1, 2), -1);
        probe.due("not ALIVE", x.lives(2, 1, 0), -1);
        probe.due("not ALIVE", x.lives(2, 0, 1), -1);
    }

    private void dueBefore(String what, TuskLedger x, int tusk, int days) {
        probe.due(what + ": before(0)", x.before(0), tusk);
        probe.due(what + ": before(1)", x.before(1), days);
    }

    private void beforeLongest() {
        probe.sentence("Terms", "BEFORE: the ELEPHANT that is ALIVE before which a DEBT told now would be KNOWN the longest "
            + "as it goes (behind how many DAYS nobody KNOWS it first, 99 at most):");
        dueBefore("all die this day", probe.told(HERD + "dies t 0;dies u 0;dies v 0;"), 0, 1);
        dueBefore("v a day later", probe.told(HERD + "dies t 0;dies u 0;dies v 1;"), 2, 2);
        dueBefore("behind 98 days", probe.told(HERD + "dies t 0;dies u 97;dies v 1;"), 1, 98);
        dueBefore("behind 99 days", probe.told(HERD + "dies t 0;dies u 98;dies v 97;"), 1, 99);
        dueBefore("99 at most: as long as ever", probe.told(HERD + "dies t 98;dies v 97;"), 0, 99);
        dueBefore("a dead one is none", gone(HERD + "dies t 0;dies u 50;dies v 40;", 1), 1, 50);
        // As it goes: 50 of a hundred dies on the first tenth day.
        dueBefore("as it goes", probe.told("tusk t 1 0;tusk u 2 0;law die 50-(age=3);"), 1, 20);
    }

    private void beforeWhatever() {
        probe.sentence("Terms", "each leaning passes it on, whatever E of pass, it isn't PAID, and isn't counted in any E; "
            + "all else as ever (other DEBTS lent, passed on, PAID);");
        dueBefore("whatever E of pass", probe.told(HERD + "dies t 3;dies u 9;dies v 2;lean v u 1;law pass 0;"), 1, 10);
        dueBefore("passed on", probe.told("tusk t 1 0;tusk u 1 1;dies t 3;dies u 9;lean t u 3;law pass 0;"), 0, 10);
        dueBefore("passed on by the second one", probe.told("tusk t 1 0;tusk u 1 0;tusk v 1 1;dies t 1;dies u 3;dies v 9;"
            + "lean u v 3;"), 1, 10);
        dueBefore("who passes it on KNOWS it yet", probe.told("tusk t 1 0;tusk u 1 0;lean t u 1;dies u 3;"), 0, 99);
        dueBefore("behind its death none leans", probe.told("tusk t 1 0;tusk u 1 1;dies t 3;dies u 9;lean t u 4;"), 1, 10);
        dueBefore("it isn't PAID", probe.told(TWO + "law pay 1;"), 0, 99);
        dueBefore("not counted in E of die", probe.told("tusk t 1 0;law die (knows+known)*100;"), 0, 99);
        TuskLedger eight = probe.told("man a 99;man b 0;tusk t 1 0;tusk u 1 0;lean t u 3;law die (knows>0 or known>0)*100;");
        for (int i = 0; i < 8; i++) {
            eight.lend(0, 1, 1, 1);
        }
        dueBefore("not counted with 8 DEBTS", eight, 0, 99);
        // Told of one more it would die: u of the debt that is lent before it on day 3; paid on day 8, it lives.
        String world = "man a 9;man b 0;tusk t 1 1;tusk u 1 0;debt a b 1 u 3;dies t 60;law die knows*100;";
        dueBefore("other DEBTS lent", probe.told(world + "law pay 0;"), 0, 61);
        dueBefore("other DEBTS PAID", probe.told(world), 1, 99);
        String passing = "man a 9;man b 0;tusk t 1 1;tusk u 1 0;debt a b 1 t 0;lean t u 3;dies t 5;law die knows*100;"
            + "law pay 0;law pass ";
        dueBefore("other DEBTS passed on", probe.told(passing + "1;"), 1, 10);
        dueBefore("other DEBTS not passed on", probe.told(passing + "0;"), 1, 99);
        dueBefore("not counted in E of pass", probe.told(passing + "knows=1 and known=1;"), 1, 10);
        TuskLedger x = probe.told(passing + "1;");
        x.before(0);
        probe.due("nothing is told of it", x.count(2), 1);
        probe.due("nobody knows it", x.tusk(0, 3), 0);
    }

    private void beforeCheapest() {
        probe.sentence("Terms", "of several the one with fewest BUNS, of these the first.");
        dueBefore("fewest BUNS", probe.told("tusk t 1 9;tusk u 1 8;tusk v 1 7;tusk w 1 7;tusk x 1 8;"), 2, 99);
        dueBefore("the first", probe.told("tusk t 1 0;tusk u 1 0;"), 0, 99);
        dueBefore("the last of six", probe.told(HERD + "tusk w 1 0;tusk x 1 0;tusk y 1 9;dies t 1;dies u 1;dies v 1;"
            + "dies w 1;dies x 1;dies y 2;"), 5, 3);
        dueBefore("the longest goes ahead", probe.told("tusk t 1 0;tusk u 1 9;dies t 5;"), 1, 99);
    }

    private void beforeOfWhat() {
        probe.sentence("23", "BEFORE, what 0: the ELEPHANT, 1: for how many DAYS. -2: none is ALIVE; NONE for another what.");
        dueBefore("one", probe.told("tusk t 1 0;"), 0, 99);
        dueBefore("no elephants", new TuskLedger(), -2, -2);
        dueBefore("all died", gone(HERD + "dies t 0;dies u 0;dies v 0;", 1), -2, -2);
        for (int none : WILD) {
            probe.due("before(" + none + ")", probe.told(HERD).before(none), -1);
        }
        probe.due("before(2)", probe.told(HERD).before(2), -1);
    }

    private void ring() {
        probe.sentence("Terms", "RING: MEN (bits) who owe in a ring: from whom by DEBTS that are OPEN one comes back to "
            + "oneself.");
        probe.due("two", gone(SIX + "debt a b 5 t 0;debt b a 1 t 0;", 1).ring(), 3);
        probe.due("a chain", gone(SIX + "debt a b 5 t 0;debt b c 5 t 0;debt a c 5 t 0;", 1).ring(), 0);
        probe.due("two debts one way", gone(SIX + "debt a b 5 t 0;debt a b 5 t 0;", 1).ring(), 0);
        String six = "debt a b 5 t 0;debt b c 5 t 0;debt c d 5 t 0;debt d e 5 t 0;debt e f 5 t 0;";
        probe.due("all but one debt", gone(SIX + six, 1).ring(), 0);
        probe.due("all six", gone(SIX + six + "debt f a 5 t 0;", 1).ring(), 63);
        // e owes into the ring of a, b, c, and d is owed out of it: neither is in it.
        probe.due("into and out of a ring", gone(SIX + "debt a b 5 t 0;debt b c 5 t 0;debt c a 5 t 0;debt a e 5 t 0;"
            + "debt d a 5 t 0;", 1).ring(), 7);
        probe.due("two rings joined one way", gone(SIX + "debt a b 5 t 0;debt b a 5 t 0;debt b c 5 t 0;debt c d 5 t 0;"
            + "debt d e 5 t 0;debt e d 5 t 0;", 1).ring(), 27);
        TuskLedger x = gone(SIX + "debt a b 5 t 0;debt b a 1 t 1;", 1);
        probe.due("one TO COME", x.ring(), 0);
        x.go(1);
        probe.due("OPEN", x.ring(), 3);
        x.pay(0);
        probe.due("one PAID", x.ring(), 0);
    }

    private void ringCall() {
        probe.sentence("24", "RING (bits).");
        probe.due("of a new object", new TuskLedger().ring(), 0);
        probe.due("e and f", gone(SIX + "debt e f 5 t 0;debt f e 1 t 0;", 1).ring(), 48);
    }

    private void oldest() {
        probe.sentence("Terms", "OLDEST of a DEBT: the oldest ELEPHANT that KNOWS it, the first of several.");
        TuskLedger x = gone("man a 9;man b 0;tusk s 99 0;tusk t 0 0;tusk u 5 0;tusk v 5 0;debt a b 1 t 0;lean t v 1;"
            + "lean t u 2;dies u 3;law pay 0;", 1);
        probe.due("one of age 0", x.oldest(0), 1);
        x.go(1);
        probe.due("the older", x.oldest(0), 3);
        x.go(1);
        probe.due("the first of several", x.oldest(0), 2);
        x.go(1);
        probe.due("one died", x.oldest(0), 3);
        x = gone("man a 9;man b 0;tusk s 7 0;tusk t 8 0;tusk u 5 0;tusk v 6 0;debt a b 1 t 0;lean t u 0;lean t v 0;"
            + "lean t s 0;law pay 0;", 1);
        probe.due("neither the first nor the last", x.oldest(0), 1);
    }

    private void oldestNone() {
        probe.sentence("25", "-2: nobody KNOWS it; NONE: no such DEBT.");
        TuskLedger x = gone(TWO + "debt a b 1 t 0;debt a b 1 t 5;debt b a 99 t 0;debt a b 1 v 0;dies v 0;law pay 0;", 1);
        probe.due("OPEN", x.oldest(0), 0);
        probe.due("TO COME", x.oldest(1), -2);
        probe.due("REFUSED", x.oldest(2), -2);
        probe.due("FORGIVEN", x.oldest(3), -2);
        x.pay(0);
        probe.due("PAID", x.oldest(0), -2);
        for (int none : WILD) {
            probe.due("oldest(" + none + ")", x.oldest(none), -1);
        }
        probe.due("oldest(4)", x.oldest(4), -1);
    }
}
