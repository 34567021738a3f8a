/** Edges of what was seen, drawn, tried, undone, kept: the rest of the terms and promises 26 to 35, sentence by sentence. */
final class EdgeSeen {
    private static final int[] WILD = {-1, -2, 8, 100, Integer.MAX_VALUE, Integer.MIN_VALUE};
    private static final String HERD = "tusk t 1 0;tusk u 1 0;tusk v 1 0;";
    private static final String TWO = "man a 99;man b 0;" + HERD;
    /** a lends b 45 on day 0, if a had 50 at least, and it is paid on day 5. */
    private static final String LENT = "man a 99;man b 0;tusk t 1 0;debt a b 45 t 0;";
    private static final int FIFTY_AT_LEAST = 1023 - 31;
    private static final int ALL = 1023;

    private final Probe probe;

    EdgeSeen(Probe probe) {
        this.probe = probe;
    }

    void run() {
        seen();
        struck();
        knownOnes();
        had();
        seeNumber();
        seeNone();
        outNumber();
        outNone();
        known();
        knownNoSuch();
        hadCall();
        hadNone();
        chance();
        chanceNone();
        tried();
        triedOfDays();
        triedNone();
        undoable();
        undo();
        undoNone();
        imageKeeps();
        image();
        back();
        backNone();
        count();
        countNone();
    }

    private TuskLedger gone(String text, int days) {
        TuskLedger x = probe.told(text);
        x.go(days);
        return x;
    }

    private void seen() {
        probe.sentence("Terms", "SEEN, at most 24, numbered from 0 on: behind so many DAYS 1 .. 40 (as it goes from the "
            + "TEXT on, nothing done by call) a DEBT was PAID, or wasn't.");
        for (int day : new int[] {0, 1, 38, 39}) {
            TuskLedger x = probe.told(LENT + "law pay day=" + day + ";");
            x.see(day + 1, 0, true);
            probe.due("paid behind " + (day + 1), x.had(0), FIFTY_AT_LEAST);
            if (day > 0) {
                x.see(day, 0, false);
                probe.due("not behind " + day, x.had(0), FIFTY_AT_LEAST);
                x.see(day, 0, true);
                probe.due("paid behind " + day, x.had(0), 0);
            }
        }
        // From the text on: what was done by call, and the days that went by, are not looked at.
        TuskLedger x = probe.told(LENT + "law pay day=39;");
        x.gift(0, 99);
        x.lend(0, 1, 99, 0);
        x.go(5);
        x.pay(0);
        x.see(40, 0, true);
        x.see(6, 0, false);
        probe.due("nothing done by call", x.had(0), FIFTY_AT_LEAST);
        // As it goes: who has 49 of a hundred lives, who has 50 doesn't.
        x = probe.told(LENT + "law pay day=39;law die 49;");
        x.see(40, 0, true);
        probe.due("49 of a hundred", x.had(0), FIFTY_AT_LEAST);
        x = probe.told(LENT + "law pay day=39;law die 50;");
        x.see(40, 0, true);
        probe.due("50 of a hundred", x.had(0), 0);
    }

    private void struck() {
        probe.sentence("Terms", "One may strike one ahead of it (STRUCK).");
        TuskLedger x = probe.told(LENT);
        x.see(40, 0, true);
        x.see(40, 0, false);
        probe.due("both", x.had(0), 0);
        x.out(0);
        probe.due("the first is STRUCK", x.had(0), 31);
        x.out(1);
        probe.due("both are STRUCK", x.had(0), ALL);
    }

    private void knownOnes() {
        probe.sentence("Terms", "KNOWN ONES by n (all at first): the first n that aren't STRUCK by one of these (what "
            + "strikes may be STRUCK: then it doesn't count; asked from the last one on).");
        TuskLedger x = probe.told(LENT);
        x.see(40, 0, true);
        x.out(0);
        x.out(1);
        x.out(2);
        x.out(0);
        x.out(4);
        // 0 seen; 1 strikes 0; 2 strikes 1; 3 strikes 2; 4 strikes 0; 5 strikes 4.
        int[] want = {ALL, FIFTY_AT_LEAST, ALL, FIFTY_AT_LEAST, ALL, ALL, ALL};
        for (int n = 0; n < want.length; n++) {
            x.known(n);
            probe.due("by " + n, x.had(0), want[n]);
        }
        x = probe.told(LENT);
        x.see(40, 0, true);
        x.out(0);
        probe.due("all at first", x.had(0), ALL);
        x.known(1);
        probe.due("by one: what strikes isn't of these", x.had(0), FIFTY_AT_LEAST);
    }

    private void had() {
        probe.sentence("Terms", "HAD of a MAN: PURSE 0, 10, .. 90 (bits 0 .. 9) at first, in place of what was told, by "
            + "which all KNOWN ONES are so.");
        for (int i = 0; i < 10; i++) {
            // a lends so much if a had it, and one more if a had one more.
            int sum = Math.max(1, 10 * i);
            TuskLedger x = probe.told("man a 999;man b 0;tusk t 1 0;debt a b " + sum + " t 0;debt a b " + (sum + 1)
                + " t 1;law pay 1;");
            x.see(1, 0, true);
            int most = i == 0 ? ALL - 1 : ALL - (1 << i) + 1;
            probe.due("PAID " + sum, x.had(0), most);
            x.see(2, 1, false);
            probe.due("and not " + (sum + 1), x.had(0), i == 0 ? 0 : 1 << i);
        }
        TuskLedger x = probe.told("man a 999;man b 0;tusk t 1 0;debt a b 91 t 0;law pay 1;");
        x.see(1, 0, true);
        probe.due("in place of 999, 90 at most", x.had(0), 0);
        x = probe.told("man a 0;man b 0;tusk t 1 0;debt a b 1 t 0;law pay 1;");
        x.see(1, 0, false);
        probe.due("0", x.had(0), 1);
        probe.due("another one: all", x.had(1), ALL);
    }

    private void seeNumber() {
        probe.sentence("26", "SEEN: its number;");
        TuskLedger x = probe.told(LENT);
        for (int i = 0; i < 24; i++) {
            probe.due("see", x.see(1 + i, 0, i % 2 == 0), i);
        }
        probe.due("count(12)", x.count(12), 24);
    }

    private void seeNone() {
        probe.sentence("26", "NONE: no such ones (a DEBT of the TEXT), or there are 24.");
        TuskLedger x = probe.told(LENT);
        for (int none : new int[] {0, -1, 41, Integer.MAX_VALUE, Integer.MIN_VALUE}) {
            probe.due("see(" + none + ", 0, true)", x.see(none, 0, true), -1);
        }
        for (int none : WILD) {
            probe.due("see(1, " + none + ", true)", x.see(1, none, true), -1);
        }
        x.lend(0, 1, 1, 0);
        probe.due("a DEBT that was lent by call", x.see(1, 1, true), -1);
        probe.due("none came", x.count(12), 0);
        probe.due("see(1, 0, true)", x.see(1, 0, true), 0);
        probe.due("see(40, 0, true)", x.see(40, 0, true), 1);
        for (int i = 2; i < 24; i++) {
            x.see(1, 0, true);
        }
        probe.due("there are 24", x.see(1, 0, true), -1);
        x.out(0);
        probe.due("there are 24 yet", x.count(12), 24);
        Probe.tell(x, LENT);
        probe.due("of a new text", x.see(1, 0, true), 0);
    }

    private void outNumber() {
        probe.sentence("27", "One that strikes one SEEN: its number;");
        TuskLedger x = probe.told(LENT);
        x.see(1, 0, true);
        probe.due("out(0)", x.out(0), 1);
        probe.due("out(0) again", x.out(0), 2);
        probe.due("out(2), one that strikes", x.out(2), 3);
        probe.due("count(12)", x.count(12), 4);
    }

    private void outNone() {
        probe.sentence("27", "NONE: no such one, or there are 24.");
        TuskLedger x = probe.told(LENT);
        probe.due("out(0) of none", x.out(0), -1);
        x.see(1, 0, true);
        for (int none : WILD) {
            probe.due("out(" + none + ")", x.out(none), -1);
        }
        probe.due("out(1), itself", x.out(1), -1);
        for (int i = 1; i < 24; i++) {
            probe.due("out(0)", x.out(0), i);
        }
        probe.due("there are 24", x.out(0), -1);
        probe.due("count(12)", x.count(12), 24);
    }

    private void known() {
        probe.sentence("28", "KNOWN ONES by n from now on (-1: by all, also those to come): true;");
        TuskLedger x = probe.told(LENT);
        x.see(40, 0, true);
        probe.due("known(0)", x.known(0), true);
        probe.due("by none", x.had(0), ALL);
        probe.due("known(1)", x.known(1), true);
        probe.due("by one", x.had(0), FIFTY_AT_LEAST);
        x.see(40, 0, false);
        probe.due("by one from now on", x.had(0), FIFTY_AT_LEAST);
        probe.due("count(13)", x.count(13), 1);
        probe.due("known(2)", x.known(2), true);
        probe.due("by both", x.had(0), 0);
        probe.due("known(-1)", x.known(-1), true);
        x.out(0);
        probe.due("also those to come", x.had(0), 31);
        probe.due("count(13)", x.count(13), 3);
    }

    private void knownNoSuch() {
        probe.sentence("28", "false: no such n.");
        TuskLedger x = probe.told(LENT);
        probe.due("known(1) of none", x.known(1), false);
        x.see(40, 0, true);
        x.known(1);
        for (int none : new int[] {-2, 2, 24, 25, Integer.MAX_VALUE, Integer.MIN_VALUE}) {
            probe.due("known(" + none + ")", x.known(none), false);
        }
        x.out(0);
        probe.due("it stays by one", x.had(0), FIFTY_AT_LEAST);
        probe.due("known(2)", x.known(2), true);
        probe.due("known(3)", x.known(3), false);
    }

    private void hadCall() {
        probe.sentence("29", "HAD (bits);");
        TuskLedger x = probe.told(LENT);
        probe.due("nothing SEEN", x.had(0), ALL);
        x.see(6, 0, true);
        probe.due("had(0)", x.had(0), FIFTY_AT_LEAST);
        probe.due("had(1)", x.had(1), ALL);
        x.see(5, 0, true);
        probe.due("by none of these", x.had(0), 0);
        probe.due("nothing else is changed", x.man(0, 0), 99);
    }

    private void hadNone() {
        probe.sentence("29", "NONE: no such MAN.");
        TuskLedger x = probe.told(LENT);
        for (int none : WILD) {
            probe.due("had(" + none + ")", x.had(none), -1);
        }
        probe.due("had(2)", x.had(2), -1);
        probe.due("of a new object", new TuskLedger().had(0), -1);
    }

    /** How many of ten times the one of so many lives for so many tenth days, at odds of 50 each. */
    private static int timesAlive(long seed, int herd, int one, int tenthDays) {
        long number = seed;
        int times = 0;
        for (int time = 0; time < 10; time++) {
            boolean[] dead = new boolean[herd];
            for (int i = 0; i < tenthDays * herd; i++) {
                if (!dead[i % herd]) {
                    number = (number * 1103515245L + 12345L) % 2147483648L;
                    dead[i % herd] = number / 65536 % 100 < 50;
                }
            }
            times += dead[one] ? 0 : 1;
        }
        return times;
    }

    private void chance() {
        probe.sentence("30", "In how many of ten times drawn (numbers from a seed 0 .. 2147483647 on, one behind another; "
            + "n 1 .. 99 DAYS from now) an ELEPHANT is ALIVE then;");
        TuskLedger x = probe.told(HERD + "law die 50;seed 7;");
        for (int seed : new int[] {0, 1, 99999, 100000, 1 << 30, Integer.MAX_VALUE}) {
            for (int tusk = 0; tusk < 3; tusk++) {
                probe.due("chance(" + seed + ", 10, " + tusk + ")", x.chance(seed, 10, tusk), timesAlive(seed, 3, tusk, 1));
                probe.due("chance(" + seed + ", 20, " + tusk + ")", x.chance(seed, 20, tusk), timesAlive(seed, 3, tusk, 2));
            }
            probe.due("chance(" + seed + ", 1, 0)", x.chance(seed, 1, 0), 10);
            probe.due("chance(" + seed + ", 9, 0)", x.chance(seed, 9, 0), 10);
        }
        probe.due("chance(0, 99, 0)", x.chance(0, 99, 0), timesAlive(0, 3, 0, 9));
        x.go(9);
        probe.due("from now", x.chance(5, 1, 2), timesAlive(5, 3, 2, 1));
        x = probe.told("man a 9;man b 0;tusk t 1 0;debt a b 1 t 3;law pay 0;law die knows*100;");
        probe.due("dies of what it comes to know", x.chance(0, 10, 0), 0);
        x = probe.told("tusk t 1 0;tusk u 1 0;dies u 0;dies t 98;");
        probe.due("till day 97", x.chance(0, 98, 0), 10);
        probe.due("till day 98", x.chance(0, 99, 0), 0);
        x.go(1);
        probe.due("one that died", x.chance(0, 1, 1), 0);
    }

    private void chanceNone() {
        probe.sentence("30", "NONE: no such ones.");
        TuskLedger x = probe.told(HERD);
        for (int none : new int[] {-1, Integer.MIN_VALUE}) {
            probe.due("chance(" + none + ", 1, 0)", x.chance(none, 1, 0), -1);
        }
        for (int none : new int[] {0, -1, 100, Integer.MAX_VALUE, Integer.MIN_VALUE}) {
            probe.due("chance(0, " + none + ", 0)", x.chance(0, none, 0), -1);
        }
        for (int none : WILD) {
            probe.due("chance(0, 1, " + none + ")", x.chance(0, 1, none), -1);
        }
        probe.due("chance(0, 1, 3)", x.chance(0, 1, 3), -1);
    }

    private void tried() {
        probe.sentence("Terms", "TRIED for n DAYS as it goes: how many more are FORGIVEN: 0 as it goes, 1 nobody dies, 2 "
            + "ELEPHANT i KNOWS nothing (now and yet), 3 nobody leans, 4 nobody pays, 5 all that are ALIVE KNOW all that "
            + "is OPEN now.");
        // Debt 0 is passed on from t to u; debt 1 dies with v on day 4; debt 2 is paid on day 1, debt 3 lent on day 2.
        String world = TWO + "debt a b 5 t 0;debt a b 6 v 0;debt a b 7 t 0;debt a b 8 t 2;lean t u 3;dies v 4;dies t 5;"
            + "law pay sum=7 and day=1;law pass sum=5;";
        TuskLedger x = gone(world, 1);
        probe.due("as it goes: 1 and 3", x.tried(0, 0, 9), 2);
        probe.due("nobody dies", x.tried(1, 0, 9), 0);
        // What t knows now is forgiven this day, but for what is paid; what is lent before it on day 2, too.
        probe.due("t KNOWS nothing: 0, 1, 3", x.tried(2, 0, 9), 3);
        probe.due("t KNOWS nothing, for 1 day: 0", x.tried(2, 0, 1), 1);
        probe.due("t KNOWS nothing, for 2 days: 0, 3", x.tried(2, 0, 2), 2);
        probe.due("u KNOWS nothing: 0, 1, 3", x.tried(2, 1, 9), 3);
        probe.due("u KNOWS nothing, for 4 days: 1", x.tried(2, 1, 4), 1);
        probe.due("v KNOWS nothing: 1, 3", x.tried(2, 2, 9), 2);
        probe.due("v KNOWS nothing, for 1 day: 1", x.tried(2, 2, 1), 1);
        probe.due("nobody leans: 0, 1, 3", x.tried(3, 0, 9), 3);
        probe.due("nobody pays: 1, 2, 3", x.tried(4, 0, 9), 3);
        // u knows 0, 1 and 2, not 3, which isn't open now.
        probe.due("all KNOW all: 3", x.tried(5, 0, 9), 1);
        probe.due("all is as it was", x.debt(0, 7), 1);
        x.go(4);
        probe.due("how many more: 3", x.tried(0, 0, 9), 1);
        // As it goes 50 of a hundred die, and nobody does by odds if nobody dies.
        x = gone(TWO + "debt a b 5 t 0;law pay 0;law die 50;", 1);
        probe.due("by odds", x.tried(0, 0, 9), 1);
        probe.due("nobody dies", x.tried(1, 0, 99), 0);
        // The first and the last of 8 are told, too.
        x = gone(TWO + "debt a b 5 t 0;".repeat(8) + "dies t 3;law pay 0;", 1);
        probe.due("as it goes", x.tried(0, 0, 9), 8);
        probe.due("all KNOW all 8", x.tried(5, 0, 9), 0);
        // What is to come, refused, paid isn't OPEN: t, who would die of a debt that it KNOWS, KNOWS nothing of it.
        x = gone(TWO + "debt a b 5 u 0;debt a b 6 u 50;debt b a 99 u 0;debt a b 7 u 0;dies u 3;dies v 3;"
            + "law pay sum=7;law die (knows>1)*100;", 1);
        probe.due("all KNOW what is OPEN", x.tried(5, 0, 20), 0);
        probe.due("as it goes", x.tried(0, 0, 20), 1);
        // Only who is alive knows all.
        x = gone(TWO + "debt a b 5 t 0;dies v 0;dies t 3;dies u 3;law pay 0;", 1);
        probe.due("v died: nobody is left", x.tried(5, 0, 3), 1);
    }

    private void triedOfDays() {
        probe.sentence("31", "TRIED (n 0 .. 99);");
        TuskLedger x = gone(TWO + "debt a b 5 t 0;debt a b 6 u 0;dies t 98;dies u 99;law pay 0;", 0);
        probe.due("tried(0, 0, 0)", x.tried(0, 0, 0), 0);
        probe.due("tried(2, 0, 0)", x.tried(2, 0, 0), 0);
        probe.due("tried(0, 0, 98)", x.tried(0, 0, 98), 0);
        probe.due("tried(0, 0, 99)", x.tried(0, 0, 99), 1);
        x.go(1);
        probe.due("tried(0, 0, 99)", x.tried(0, 0, 99), 2);
    }

    private void triedNone() {
        probe.sentence("31", "NONE: no such ones (i 0 of all but 2).");
        TuskLedger x = probe.told(TWO);
        for (int none : new int[] {-1, 6, 7, Integer.MAX_VALUE, Integer.MIN_VALUE}) {
            probe.due("tried(" + none + ", 0, 1)", x.tried(none, 0, 1), -1);
        }
        for (int none : new int[] {-1, 100, Integer.MAX_VALUE, Integer.MIN_VALUE}) {
            probe.due("tried(0, 0, " + none + ")", x.tried(0, 0, none), -1);
            probe.due("tried(2, 0, " + none + ")", x.tried(2, 0, none), -1);
        }
        for (int none : WILD) {
            probe.due("tried(2, " + none + ", 1)", x.tried(2, none, 1), -1);
        }
        probe.due("tried(2, 3, 1)", x.tried(2, 3, 1), -1);
        probe.due("tried(2, 2, 1)", x.tried(2, 2, 1), 0);
        for (int what : new int[] {0, 1, 3, 4, 5}) {
            probe.due("tried(" + what + ", 0, 1)", x.tried(what, 0, 1), 0);
            probe.due("tried(" + what + ", 1, 1)", x.tried(what, 1, 1), -1);
            probe.due("tried(" + what + ", -1, 1)", x.tried(what, -1, 1), -1);
        }
        probe.due("no elephant", new TuskLedger().tried(2, 0, 1), -1);
    }

    private void undoable() {
        probe.sentence("Terms", "Lending, leaning, paying, gifts by call can be undone, the latest first (20 at most), if "
            + "no DAY went by since.");
        TuskLedger x = gone(TWO + "debt a b 5 t 0;law pay 0;", 1);
        x.lend(0, 1, 9, 1);
        x.lean(0, 1);
        x.pay(0);
        x.gift(0, 7);
        probe.due("four", x.count(14), 4);
        probe.due("the gift", x.undo(), 3);
        probe.due("PURSE", x.man(0, 0), 90);
        probe.due("the paying", x.undo(), 2);
        probe.due("OPEN", x.debt(0, 5), 1);
        probe.due("who KNOWS it", x.debt(0, 7), 3);
        probe.due("the leaning", x.undo(), 1);
        probe.due("who KNOWS it", x.debt(0, 7), 1);
        probe.due("the lending", x.undo(), 0);
        probe.due("DEBTS", x.count(2), 1);
        probe.due("PURSES", x.count(11), 99);
        for (int i = 1; i <= 25; i++) {
            x.gift(1, i);
            probe.due("gift " + i, x.count(14), Math.min(20, i));
        }
        for (int i = 19; i >= 0; i--) {
            probe.due("undo", x.undo(), i);
            probe.due("the gifts of 1 to " + (i + 5), x.man(1, 0), 5 + (i + 5) * (i + 6) / 2);
        }
        probe.due("undo", x.undo(), -1);
        probe.due("the first five of 25 stay", x.man(1, 0), 20);
        x.gift(1, 1);
        x.go(0);
        probe.due("no DAY", x.count(14), 1);
        x.go(100);
        x.go(-1);
        probe.due("no DAY", x.count(14), 1);
        x.go(1);
        probe.due("a DAY", x.count(14), 0);
        probe.due("undo", x.undo(), -1);
        probe.due("it stays", x.man(1, 0), 21);
        x.lean(1, 2);
        probe.due("a leaning of which nothing comes is one, too", x.count(14), 1);
    }

    private void undo() {
        probe.sentence("32", "The latest is undone: how many are left;");
        TuskLedger x = probe.told(TWO);
        x.gift(0, 1);
        x.gift(1, 2);
        probe.due("undo", x.undo(), 1);
        probe.due("man(0, 0)", x.man(0, 0), 100);
        probe.due("man(1, 0)", x.man(1, 0), 0);
        x.gift(1, 5);
        probe.due("undo", x.undo(), 1);
        probe.due("undo", x.undo(), 0);
        probe.due("man(0, 0)", x.man(0, 0), 99);
    }

    private void undoNone() {
        probe.sentence("32", "NONE: none.");
        probe.due("of a new object", new TuskLedger().undo(), -1);
        TuskLedger x = probe.told(TWO);
        probe.due("undo", x.undo(), -1);
        x.gift(0, 0);
        x.lend(0, 0, 1, 0);
        x.lend(1, 0, 1, 0);
        x.lean(0, 0);
        x.pay(0);
        probe.due("what is refused can't be undone", x.undo(), -1);
        x.see(1, 0, true);
        x.image();
        probe.due("nor what else is called", x.undo(), -1);
    }

    private void imageKeeps() {
        probe.sentence("Terms", "An IMAGE keeps all but what was SEEN.");
        String world = TWO + "debt a b 5 t 0;debt a b 6 u 4;dies v 3;rate 50;seed 5;law pay 0;law die (age>1)*50;";
        TuskLedger x = gone(world, 1);
        x.lend(0, 1, 7, 2);
        x.lean(2, 0);
        x.see(1, 0, true);
        x.image();
        x.see(2, 0, true);
        x.out(0);
        x.go(30);
        int alive = x.count(9);
        int first = x.tusk(0, 2);
        x.gift(0, 3);
        x.back();
        probe.due("DAY", x.count(4), 1);
        probe.due("DEBTS", x.count(2), 3);
        probe.due("TO COME", x.debt(1, 5), 0);
        probe.due("OWED", x.debt(0, 6), 5);
        probe.due("KNOWN", x.debt(2, 7), 5);
        probe.due("ALIVE", x.count(9), 3);
        probe.due("AGE", x.tusk(0, 0), 1);
        probe.due("PURSE", x.man(0, 0), 87);
        probe.due("SEEN", x.count(12), 3);
        x.go(30);
        probe.due("the numbers: ALIVE", x.count(9), alive);
        probe.due("the numbers: t", x.tusk(0, 2), first);
    }

    private void image() {
        probe.sentence("33", "An IMAGE is kept (in place of one ahead): which DAY it is.");
        TuskLedger x = new TuskLedger();
        probe.due("image of a new object", x.image(), 0);
        probe.due("back", x.back(), 0);
        x.go(3);
        probe.due("image", x.image(), 3);
        x.go(4);
        probe.due("image", x.image(), 7);
        x.go(1);
        probe.due("in place of one ahead", x.back(), 7);
    }

    private void back() {
        probe.sentence("34", "All (but what was SEEN) is as in the IMAGE (nothing to undo then): which DAY it is;");
        TuskLedger x = gone(TWO + "debt a b 5 t 0;law pay 0;", 1);
        x.gift(0, 1);
        x.image();
        x.gift(0, 1);
        probe.due("back", x.back(), 1);
        probe.due("PURSE", x.man(0, 0), 95);
        probe.due("nothing to undo", x.undo(), -1);
        probe.due("count(14)", x.count(14), 0);
        x.go(5);
        probe.due("back again", x.back(), 1);
        x.see(1, 0, true);
        x.back();
        probe.due("SEEN", x.count(12), 1);
    }

    private void backNone() {
        probe.sentence("34", "NONE: there is none.");
        probe.due("of a new object", new TuskLedger().back(), -1);
        TuskLedger x = probe.told(TWO);
        x.gift(0, 1);
        probe.due("back", x.back(), -1);
        probe.due("what can be undone stays", x.count(14), 1);
        x.image();
        Probe.tell(x, "man");
        probe.due("behind a text with a fault", x.back(), 0);
        Probe.tell(x, TWO);
        probe.due("behind a text", x.back(), -1);
    }

    private void count() {
        probe.sentence("35", "0 MEN, 1 ELEPHANTS, 2 DEBTS now, 3 KNOTS, 4 the DAY, 5 OPEN, 6 PAID, 7 FORGIVEN, 8 REFUSED, 9 "
            + "ALIVE, 10 OWED in sum, 11 PURSES in sum, 12 SEEN, 13 by how many it is KNOWN, 14 what can be undone.");
        TuskLedger x = probe.told("man a 99;man b 0;tusk t 1 0;tusk u 1 0;tusk v 1 2;debt a b 5 t 0;debt a b 6 u 0;"
            + "debt b a 99 t 0;debt a b 7 t 9;debt a b 8 t 0;dies u 0;law pay sum=8;law pass (not 1);");
        x.go(1);
        x.lend(0, 1, 9, 2);
        x.gift(0, 1);
        x.see(1, 0, true);
        x.see(1, 0, true);
        x.known(1);
        int[] want = {2, 3, 6, 5, 1, 2, 1, 1, 1, 2, 14, 98, 2, 1, 2};
        for (int what = 0; what <= 14; what++) {
            probe.due("count(" + what + ")", x.count(what), want[what]);
        }
        probe.due("of a new object: count(13)", new TuskLedger().count(13), 0);
        x = full();
        int[] most = {6, 6, 8, 64, 100, 8, 0, 0, 0, 6, 8 * 99, 6 * 999 - 8 * 9, 24, 24, 0};
        for (int what = 0; what <= 14; what++) {
            probe.due("of a full one: count(" + what + ")", x.count(what), most[what]);
        }
        for (int man = 0; man < 6; man++) {
            int net = man == 0 ? 2 * 99 : man == 5 ? -2 * 99 : 0;
            probe.due("of a full one: NET of " + man, x.man(man, 1), net);
        }
        for (int tusk = 0; tusk < 6; tusk++) {
            probe.due("of a full one: KNOWS, " + tusk, x.tusk(tusk, 3), tusk == 0 || tusk == 5 ? 255 : 0);
            probe.due("of a full one: alone, " + tusk, x.tusk(tusk, 4), 0);
        }
        probe.due("of a full one: clear", x.clear(), 1);
        probe.due("of a full one: ring", x.ring(), 63);
        probe.due("of a full one: order", x.order(4), 4 * 99);
        probe.due("of a full one: had", x.had(5), ALL);
        probe.due("of a full one: lean", x.lean(0, 1), 8);
        for (int debt = 0; debt < 6; debt++) {
            x.pay(debt);
        }
        probe.due("two left: order(0)", x.order(0), 6);
        probe.due("two left: order(1)", x.order(1), 7);
        probe.due("two left: order(2)", x.order(2), -2);
        probe.due("two left: keep", x.keep(7, 60), 1);
    }

    /** As many of all as there can be: six men in a ring, and two debts more, all lent before the last elephant. */
    private TuskLedger full() {
        StringBuilder text = new StringBuilder();
        for (char name = 'a'; name <= 'f'; name++) {
            text.append("man ").append(name).append(" 999;tusk ").append(name).append(" 0 9;");
        }
        for (String pair : new String[] {"a b", "b c", "c d", "d e", "e f", "f a", "a f", "a f"}) {
            text.append("debt ").append(pair).append(" 99 f 0;");
        }
        text.append("lean f a 0;".repeat(10)).append("law pay 0").append("*1".repeat(31)).append(";law die 0;");
        TuskLedger x = probe.told(text.toString());
        x.go(99);
        x.go(1);
        for (int i = 0; i < 24; i++) {
            x.see(40, 7, false);
        }
        return x;
    }

    private void countNone() {
        probe.sentence("35", "NONE for another what.");
        for (int none : new int[] {-1, 15, Integer.MAX_VALUE, Integer.MIN_VALUE}) {
            probe.due("count(" + none + ")", new TuskLedger().count(none), -1);
        }
    }
}
