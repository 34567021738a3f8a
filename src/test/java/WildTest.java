import java.util.NoSuchElementException;
import java.util.Random;

/** Calls with wild numbers in drawn states: none throws but debt(), and that by a throw of its own. */
public final class WildTest {
    private static final Probe PROBE = new Probe();
    private static final int[] WILD = {0, 1, -1, 2, -2, 3, 4, 5, 6, 7, 8, 9, 10, 20, 23, 24, 25, 40, 41, 60, 61, 98, 99,
        100, 101, 255, 700, 701, 9900, 99999, 1 << 30, Integer.MAX_VALUE, Integer.MIN_VALUE, Integer.MIN_VALUE + 1};
    private static final String[] PIECES = {"man", "tusk", "debt", "lean", "dies", "rate", "seed", "law", "pass", "pay",
        "die", "not", "and", "or", "sum", "age", "purse", "known", "days", "knows", "day", "a", "b", "t", "u", "0", "1",
        "9", "99", "9999", "10000", ";", ";", ";", "(", ")", "+", "-", "*", "/", "<", "<=", "=", "<>", ">=", ">", " ",
        "man a 9;", "man b 90;", "tusk t 9 1;", "tusk u 70 0;", "debt a b 9 t 2;", "debt b a 30 u 1;", "lean t u 3;",
        "dies u 7;", "law pay day*9999*9999*9999>sum/age;", "law die 9/knows;", "law pass known/(1-knows);"};

    public static void main(String[] args) {
        for (int run = 1; run <= 600; run++) {
            Random random = new Random(run);
            TuskLedger x = new TuskLedger();
            for (int i = 0; i < 250; i++) {
                call(x, random, run);
            }
        }
        PROBE.end();
    }

    private static int wild(Random random) {
        return random.nextInt(3) == 0 ? random.nextInt(3) : WILD[random.nextInt(WILD.length)];
    }

    private static void call(TuskLedger x, Random random, int run) {
        int kind = random.nextInt(36);
        try {
            if (kind < 2) {
                tell(x, random);
            } else if (kind < 19) {
                first(x, random, kind);
            } else {
                second(x, random, kind);
            }
        } catch (RuntimeException e) {
            PROBE.due("run " + run + ", kind " + kind + " throws " + e, 1, 0);
        }
    }

    private static void tell(TuskLedger x, Random random) {
        StringBuilder text = new StringBuilder(random.nextBoolean() ? "man a 9;man b 90;tusk t 9 1;tusk u 70 0;" : "");
        for (int i = random.nextInt(40); i > 0; i--) {
            text.append(PIECES[random.nextInt(PIECES.length)]).append(random.nextInt(4) == 0 ? "" : " ");
        }
        if (random.nextInt(9) == 0) {
            text.append((char) random.nextInt(256));
        }
        Probe.tell(x, text.toString());
    }

    private static void first(TuskLedger x, Random random, int kind) {
        int a = wild(random);
        int b = wild(random);
        int c = wild(random);
        int d = wild(random);
        switch (kind) {
            case 2 -> x.feed(a, b, c, d, random.nextInt());
            case 3 -> x.text(a);
            case 4 -> x.fault(a);
            case 5 -> x.named(a, b);
            case 6 -> debt(x, a, b);
            case 7 -> x.man(a, b);
            case 8 -> x.tusk(a, b);
            case 9 -> x.law(a, b, c);
            case 10 -> x.lend(a, b, c, d);
            case 11 -> x.lean(a, b);
            case 12 -> x.pay(a);
            case 13 -> x.gift(a, b);
            case 14 -> x.go(a);
            case 15 -> x.ahead(a, b, c);
            case 16 -> x.ends(a);
            case 17 -> x.clear();
            default -> x.keep(a, b);
        }
    }

    private static void debt(TuskLedger x, int debt, int what) {
        try {
            x.debt(debt, what);
        } catch (IndexOutOfBoundsException | NoSuchElementException e) {
            boolean isOwn = e.getClass() == IndexOutOfBoundsException.class
                || e.getClass() == NoSuchElementException.class;
            PROBE.due("debt throws " + e + " by itself", isOwn, true);
        }
    }

    private static void second(TuskLedger x, Random random, int kind) {
        int a = wild(random);
        int b = wild(random);
        int c = wild(random);
        switch (kind) {
            case 19 -> x.order(a);
            case 20 -> x.rests(a, b);
            case 21 -> x.rest(a, b, c);
            case 22 -> x.lives(a, b, c);
            case 23 -> x.before(a);
            case 24 -> x.ring();
            case 25 -> x.oldest(a);
            case 26 -> x.see(a, b, random.nextBoolean());
            case 27 -> x.out(a);
            case 28 -> x.known(a);
            case 29 -> x.had(a);
            case 30 -> x.chance(a, b, c);
            case 31 -> x.tried(a, b, c);
            case 32 -> x.undo();
            case 33 -> x.image();
            case 34 -> x.back();
            default -> x.count(a);
        }
    }
}
