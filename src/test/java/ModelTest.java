import java.util.NoSuchElementException;
import java.util.Random;

/** Runs of drawn calls, the same ones on the class and on the model: every answer must be alike. */
public final class ModelTest {
    private static final Probe PROBE = new Probe();
    private static final String[] MEN = {"al", "bo", "cy", "di", "ed", "flo", "gus"};
    private static final String[] TUSKS = {"old", "mid", "kid", "al", "tom", "ann", "zed"};
    private static final String[] NAMES = {"sum", "age", "purse", "known", "days", "knows", "day"};

    private final Random random;
    private final TuskLedger x = new TuskLedger();
    private final Model m = new Model();
    private final int run;

    private ModelTest(int run) {
        this.run = run;
        random = new Random(run);
    }

    public static void main(String[] args) {
        int runs = args.length > 0 ? Integer.parseInt(args[0]) : 400;
        int first = args.length > 1 ? Integer.parseInt(args[1]) : 1;
        for (int run = first; run < first + runs; run++) {
            new ModelTest(run).calls();
        }
        PROBE.end();
    }

    private int below(int n) {
        return random.nextInt(n);
    }

    private void due(String call, long got, long want) {
        PROBE.due("run " + run + ": " + call, got, want);
    }

    private void calls() {
        tell(spoilt(text()));
        tell(text());
        for (int i = 0; i < 150; i++) {
            if (below(60) == 0) {
                tell(below(4) == 0 ? spoilt(text()) : text());
            }
            call();
        }
    }

    private void tell(String text) {
        for (int from = 0; from < text.length(); from += 20) {
            int[] f = Probe.numbers(text, from);
            due("feed", x.feed(f[0], f[1], f[2], f[3], f[4]), m.feed(f[0], f[1], f[2], f[3], f[4]));
        }
        int n = Math.min(text.length(), 700);
        due("text " + text, x.text(n), m.text(n));
        due("fault(0) " + text, x.fault(0), m.fault(0));
        due("fault(1) " + text, x.fault(1), m.fault(1));
    }

    private String spoilt(String text) {
        StringBuilder s = new StringBuilder(text);
        String signs = ";()+-*/<>= 019az\n!";
        for (int i = below(3); i >= 0 && s.length() > 0; i--) {
            int at = below(s.length());
            int how = below(3);
            char sign = signs.charAt(below(signs.length()));
            if (how == 0) {
                s.deleteCharAt(at);
            } else if (how == 1) {
                s.insert(at, sign);
            } else {
                s.setCharAt(at, sign);
            }
        }
        return s.toString();
    }

    private String text() {
        StringBuilder s = new StringBuilder();
        boolean isOver = below(12) == 0;
        int men = below(9) == 0 ? below(2) : 2 + below(isOver ? 6 : 5);
        int tusks = below(9) == 0 ? 0 : 1 + below(isOver ? 7 : 6);
        int most = below(3) == 0 ? 100 : 3 + below(20);
        for (int i = 0; i < men; i++) {
            s.append("man ").append(MEN[i]).append(' ').append(below(below(2) == 0 ? 1000 : 90)).append(';');
        }
        for (int i = 0; i < tusks; i++) {
            s.append("tusk ").append(TUSKS[i]).append(' ').append(below(below(2) == 0 ? 100 : 60)).append(' ').append(below(10)).append(';');
        }
        if (men > 1 && tusks > 0) {
            debts(s, men, tusks, below(3) == 0 ? below(9) : isOver ? 9 : 6 + below(3), most);
        }
        if (tusks > 1) {
            for (int i = below(isOver ? 13 : 11); i > 0; i--) {
                int one = below(tusks);
                int other = (one + 1 + below(tusks - 1)) % tusks;
                s.append("lean ").append(TUSKS[one]).append(' ').append(TUSKS[other]).append(' ').append(below(most))
                    .append(';');
            }
        }
        for (int i = 0; i < tusks; i++) {
            if (below(6) == 0) {
                s.append("dies ").append(TUSKS[i]).append(' ').append(below(100)).append(';');
            }
        }
        lawsAndRates(s);
        return s.toString();
    }

    private void debts(StringBuilder s, int men, int tusks, int count, int most) {
        int debtor = below(men);
        for (int i = 0; i < count; i++) {
            if (below(3) == 0) {
                debtor = below(men);
            }
            int lender = (debtor + 1 + below(men - 1)) % men;
            s.append("debt ").append(MEN[lender]).append(' ').append(MEN[debtor]).append(' ')
                .append(1 + below(below(2) == 0 ? 99 : 12)).append(' ').append(TUSKS[below(tusks)]).append(' ')
                .append(below(most)).append(';');
        }
    }

    private void lawsAndRates(StringBuilder s) {
        if (below(2) == 0) {
            s.append("rate ").append(below(101)).append(';');
        }
        if (below(2) == 0) {
            s.append("seed ").append(below(100000)).append(';');
        }
        for (String rule : new String[] {"pass", "pay", "die"}) {
            int how = below(3);
            if (how > 0) {
                s.append("law ").append(rule).append(how == 1 ? e(4) : " day > 30 and days >= 20").append(';');
            }
        }
    }

    private String e(int depth) {
        int kind = depth == 0 ? below(2) : below(9);
        switch (kind) {
            case 0:
                return " " + (below(3) == 0 ? below(10000) : below(60));
            case 1:
                return " " + NAMES[below(7)];
            case 2:
                return " not " + e(depth - 1);
            case 3:
                return e(depth - 1) + " and " + e(depth - 1);
            case 4:
                return e(depth - 1) + " or " + e(depth - 1);
            case 5:
                return e(0) + new String[] {"<", "<=", "=", "<>", ">=", ">"}[below(6)] + e(0);
            case 6:
                return "(" + e(depth - 1) + ")";
            default:
                return e(depth - 1) + "+-*/".charAt(below(4)) + e(depth - 1);
        }
    }

    /** Mostly a number that there is, now and then one beside. */
    private int near(int n) {
        return below(15) == 0 ? below(n + 4) - 2 : n == 0 ? 0 : below(n);
    }

    private void call() {
        int kind = below(38);
        if (kind < 9) {
            look(kind);
        } else if (kind < 16) {
            act(kind);
        } else if (kind < 27) {
            foresee(kind);
        } else {
            recall(kind);
        }
    }

    private int man() {
        return near(m.count(0));
    }

    private int tusk() {
        return near(m.count(1));
    }

    private int debt() {
        return near(m.count(2));
    }

    private void look(int kind) {
        int what = near(8);
        int man = man();
        int tusk = tusk();
        int debt = debt();
        switch (kind) {
            case 0:
                due("fault", x.fault(what), m.fault(what));
                break;
            case 1:
                what = near(2);
                String name = (what == 0 ? MEN : TUSKS)[below(7)];
                int letters = Probe.letters(name) + (below(9) == 0 ? below(3) << 30 : 0);
                due("named", x.named(what, letters), m.named(what, letters));
                break;
            case 2:
            case 3:
                due("debt(" + debt + ", " + what + ")", debtOf(debt, what), modelDebtOf(debt, what));
                break;
            case 4:
                what = near(2);
                due("man(" + man + ", " + what + ")", x.man(man, what), m.man(man, what));
                break;
            case 5:
            case 6:
                what = near(5);
                due("tusk(" + tusk + ", " + what + ")", x.tusk(tusk, what), m.tusk(tusk, what));
                break;
            case 7:
                what = near(3);
                due("law(" + what + ", " + debt + ", " + tusk + ")", x.law(what, debt, tusk), m.law(what, debt, tusk));
                break;
            default:
                what = near(15);
                due("count(" + what + ")", x.count(what), m.count(what));
                break;
        }
    }

    private int debtOf(int d, int what) {
        try {
            return x.debt(d, what);
        } catch (IndexOutOfBoundsException e) {
            return -1001;
        } catch (NoSuchElementException e) {
            return -1002;
        }
    }

    private int modelDebtOf(int d, int what) {
        try {
            return m.debt(d, what);
        } catch (IndexOutOfBoundsException e) {
            return -1001;
        } catch (NoSuchElementException e) {
            return -1002;
        }
    }

    private void act(int kind) {
        int man = man();
        int other = man();
        int tusk = tusk();
        int leaned = tusk();
        int debt = debt();
        int much = below(4) == 0 ? near(101) : 1 + near(9);
        switch (kind) {
            case 9:
                due("lend(" + man + ", " + other + ", " + much + ", " + tusk + ")", x.lend(man, other, much, tusk),
                    m.lend(man, other, much, tusk));
                break;
            case 10:
                due("lean(" + tusk + ", " + leaned + ")", x.lean(tusk, leaned), m.lean(tusk, leaned));
                break;
            case 11:
                due("pay(" + debt + ")", x.pay(debt), m.pay(debt));
                break;
            case 12:
                for (int i = below(20) == 0 ? 22 : 1; i > 0; i--) {
                    due("gift(" + man + ", " + much + ")", x.gift(man, much), m.gift(man, much));
                }
                break;
            default:
                int n = below(8) == 0 ? near(100) : below(6);
                due("go(" + n + ")", x.go(n), m.go(n));
                break;
        }
    }

    private void foresee(int kind) {
        int man = man();
        int tusk = tusk();
        int debt = debt();
        int other = debt();
        int n = below(5) == 0 ? near(100) : near(30);
        int what = near(5);
        // Most pairs of debts have no debtor in common, so look for one that has.
        for (int i = 0; i < 6 && kind == 22 && m.rests(debt, other) < 0; i++) {
            debt = debt();
            other = debt();
        }
        switch (kind) {
            case 16:
                due("ahead(" + n + ", " + what + ", " + man + ")", x.ahead(n, what, man), m.ahead(n, what, man));
                break;
            case 17:
                due("ends(" + debt + ")", x.ends(debt), m.ends(debt));
                break;
            case 18:
                due("clear()", x.clear(), m.clear());
                break;
            case 19:
            case 20:
                due("keep(" + debt + ", " + n + ")", x.keep(debt, n), m.keep(debt, n));
                break;
            case 21:
                due("order(" + what + ")", x.order(what), m.order(what));
                break;
            case 22:
                due("rests(" + debt + ", " + other + ")", x.rests(debt, other), m.rests(debt, other));
                due("rest(" + debt + ", " + other + ", " + what + ")", x.rest(debt, other, what / 2),
                    m.rest(debt, other, what / 2));
                break;
            case 23:
                what = near(2);
                n = near(7);
                due("lives(" + tusk + ", " + n + ", " + what + ")", x.lives(tusk, n, what), m.lives(tusk, n, what));
                break;
            case 24:
                what = near(2);
                due("before(" + what + ")", x.before(what), m.before(what));
                break;
            case 25:
                due("ring()", x.ring(), m.ring());
                break;
            default:
                due("oldest(" + debt + ")", x.oldest(debt), m.oldest(debt));
                break;
        }
    }

    private void recall(int kind) {
        int man = man();
        int tusk = tusk();
        int debt = debt();
        int n = below(5) == 0 ? near(100) : near(41);
        int what = near(6);
        int seen = near(m.count(12) + 1);
        switch (kind) {
            case 27:
            case 28:
                boolean isPaid = below(2) == 0;
                due("see(" + n + ", " + debt + ", " + isPaid + ")", x.see(n, debt, isPaid), m.see(n, debt, isPaid));
                break;
            case 29:
                due("out(" + seen + ")", x.out(seen), m.out(seen));
                break;
            case 30:
                seen = below(2) == 0 ? -1 : seen;
                due("known(" + seen + ")", x.known(seen) ? 1 : 0, m.known(seen) ? 1 : 0);
                break;
            case 31:
            case 32:
                due("had(" + man + ")", x.had(man), m.had(man));
                break;
            case 33:
                int seed = below(20) == 0 ? random.nextInt() : random.nextInt() >>> 1;
                due("chance(" + seed + ", " + n + ", " + tusk + ")", x.chance(seed, n, tusk), m.chance(seed, n, tusk));
                break;
            case 34:
                int i = what == 2 ? tusk : below(9) == 0 ? 1 : 0;
                due("tried(" + what + ", " + i + ", " + n + ")", x.tried(what, i, n), m.tried(what, i, n));
                break;
            case 35:
                due("undo()", x.undo(), m.undo());
                break;
            case 36:
                due("image()", x.image(), m.image());
                break;
            default:
                if (below(3) == 0) {
                    due("back()", x.back(), m.back());
                }
                break;
        }
    }
}
