/** Promises 26 to 29: see, out, known, had. */
public final class SeenTest {
    private static final Probe PROBE = new Probe();
    /** b pays a on day 5; b can lend c 20 on day 1 if b had 11 at first, and c pays on day 6. */
    private static final String WORLD = "man a 90;man b 0;man c 0;tusk t 1 0;debt a b 9 t 0;debt b c 20 t 1;law pay "
        + "days>=5;";

    public static void main(String[] args) {
        seeing();
        striking();
        rulingOnes();
        having();
        fromTheTextOn();
        PROBE.end();
    }

    private static void seeing() {
        TuskLedger x = PROBE.told(WORLD);
        PROBE.due("see(0, 0)", x.see(0, 0, true), -1);
        PROBE.due("see(41, 0)", x.see(41, 0, true), -1);
        PROBE.due("see(1, 2)", x.see(1, 2, true), -1);
        PROBE.due("see(1, -1)", x.see(1, -1, true), -1);
        x.lend(0, 1, 1, 0);
        PROBE.due("no debt of the text", x.see(1, 2, false), -1);
        PROBE.due("count(12)", x.count(12), 0);
        for (int i = 0; i < 24; i++) {
            PROBE.due("see " + i, i % 2 == 0 ? x.see(1 + i, i / 2 % 2, false) : x.out(i / 2), i);
        }
        PROBE.due("a 25th", x.see(40, 0, true), -1);
        PROBE.due("a 25th", x.out(0), -1);
        PROBE.due("count(12)", x.count(12), 24);
    }

    private static void striking() {
        TuskLedger x = PROBE.told(WORLD);
        PROBE.due("out(0) of none", x.out(0), -1);
        PROBE.due("out(-1)", x.out(-1), -1);
        x.see(40, 0, false);
        PROBE.due("unpaid: a had nothing to lend", x.had(0), 1);
        PROBE.due("out(1)", x.out(1), -1);
        PROBE.due("out(0)", x.out(0), 1);
        PROBE.due("struck", x.had(0), 1023);
        PROBE.due("what strikes is struck", x.out(1), 2);
        PROBE.due("so the first counts again", x.had(0), 1);
        PROBE.due("and that is struck, too", x.out(2), 3);
        PROBE.due("struck", x.had(0), 1023);
        PROBE.due("struck twice", x.out(0), 4);
        PROBE.due("one of both is struck", x.out(4), 5);
        PROBE.due("the other one strikes yet", x.had(0), 1023);
    }

    private static void rulingOnes() {
        TuskLedger x = PROBE.told(WORLD);
        PROBE.due("count(13)", x.count(13), 0);
        PROBE.due("known(0)", x.known(0), true);
        PROBE.due("known(1)", x.known(1), false);
        PROBE.due("known(-2)", x.known(-2), false);
        x.see(40, 0, false);
        x.out(0);
        x.out(1);
        PROBE.due("by none yet", x.had(0), 1023);
        PROBE.due("count(13)", x.count(13), 0);
        PROBE.due("known(1)", x.known(1), true);
        PROBE.due("by one", x.had(0), 1);
        PROBE.due("count(13)", x.count(13), 1);
        PROBE.due("known(2)", x.known(2), true);
        PROBE.due("by two", x.had(0), 1023);
        PROBE.due("known(3)", x.known(3), true);
        PROBE.due("by three", x.had(0), 1);
        PROBE.due("known(4)", x.known(4), false);
        PROBE.due("as it was", x.count(13), 3);
        x.out(2);
        PROBE.due("by three yet", x.had(0), 1);
        PROBE.due("known(-1)", x.known(-1), true);
        PROBE.due("by all", x.had(0), 1023);
        PROBE.due("count(13)", x.count(13), 4);
        x.out(3);
        PROBE.due("and by those to come", x.had(0), 1);
        PROBE.due("count(13)", x.count(13), 5);
    }

    private static void having() {
        // Debt 1 is lent on day 1, if b has 20 then, and is paid on day 6; b has 9 to pay on day 5 of 20 or more.
        TuskLedger x = PROBE.told(WORLD);
        PROBE.due("nothing seen", x.had(1), 1023);
        x.see(7, 1, true);
        PROBE.due("c paid: b had 20 at least", x.had(1), 1020);
        x.see(6, 0, false);
        PROBE.due("who had 20 for c had 9 to pay, too", x.had(1), 0);
        x.out(1);
        x.see(6, 0, true);
        PROBE.due("b paid", x.had(1), 1020);
        x.see(6, 1, false);
        PROBE.due("c not yet behind 6 days", x.had(1), 1020);
        PROBE.due("b had nothing, whatever a had", x.had(0), 0);
        PROBE.due("no such man", x.had(3), -1);
        PROBE.due("no such man", x.had(-1), -1);
        x = PROBE.told(WORLD);
        x.see(5, 0, false);
        x.see(6, 0, true);
        PROBE.due("behind 6 days, not 5", x.had(0), 1022);
        // Between: b spends on day 1 what it needs on day 5, if it had 11 to 19 at first.
        x = PROBE.told("man a 90;man b 0;man c 0;tusk t 1 0;debt a b 9 t 0;debt b c 19 t 1;law pay days>=5 and day<6;");
        x.see(6, 0, false);
        PROBE.due("b had 10", x.had(1), 2);
    }

    private static void fromTheTextOn() {
        TuskLedger x = PROBE.told(WORLD);
        x.gift(1, 50);
        x.lend(0, 1, 80, 0);
        x.go(9);
        x.see(7, 1, true);
        PROBE.due("nothing done by call", x.had(1), 1020);
        PROBE.due("all is as it was", x.count(4), 9);
        x.go(3);
        PROBE.due("the same later", x.had(1), 1020);
        // As it goes, not by numbers: 49 of a hundred lives.
        x = PROBE.told("man a 90;man b 0;tusk t 1 0;debt a b 9 t 0;law die 49;law pay day>=30;seed 0;");
        x.see(31, 0, true);
        PROBE.due("paid on day 30", x.had(0), 1022);
    }
}
