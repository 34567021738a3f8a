import java.math.BigInteger;
import java.util.ArrayList;
import java.util.HashMap;
import java.util.List;
import java.util.Map;
import java.util.NoSuchElementException;
import java.util.Set;
import java.util.TreeSet;

/** The document once more, written plainly with the Java library, for ModelTest to compare the class with. */
final class Model {
    static final class Fault extends RuntimeException {
        private static final long serialVersionUID = 1L;
        final int kind;
        final int place;

        Fault(int kind, int place) {
            this.kind = kind;
            this.place = place;
        }
    }

    static final class Oops extends RuntimeException {
        private static final long serialVersionUID = 1L;
    }

    interface Tree {
        BigInteger value(Map<String, Long> names);
    }

    static final class Debt {
        int lender;
        int debtor;
        int sum;
        int tusk;
        int day;
        int state;
        int owed;
        int opened;

        Debt copy() {
            Debt d = new Debt();
            d.lender = lender;
            d.debtor = debtor;
            d.sum = sum;
            d.tusk = tusk;
            d.day = day;
            d.state = state;
            d.owed = owed;
            d.opened = opened;
            return d;
        }
    }

    static final class Tusk {
        int age;
        boolean alive = true;
        Set<Integer> knows = new TreeSet<>();

        Tusk copy() {
            Tusk t = new Tusk();
            t.age = age;
            t.alive = alive;
            t.knows.addAll(knows);
            return t;
        }
    }

    static final class State {
        List<Integer> purses = new ArrayList<>();
        List<Tusk> tusks = new ArrayList<>();
        List<Debt> debts = new ArrayList<>();
        int day;
        long random;

        State copy() {
            State s = new State();
            s.purses.addAll(purses);
            for (Tusk t : tusks) {
                s.tusks.add(t.copy());
            }
            for (Debt d : debts) {
                s.debts.add(d.copy());
            }
            s.day = day;
            s.random = random;
            return s;
        }

        List<Integer> knowers(int debt) {
            List<Integer> all = new ArrayList<>();
            for (int t = 0; t < tusks.size(); t++) {
                if (tusks.get(t).knows.contains(debt)) {
                    all.add(t);
                }
            }
            return all;
        }

        int oldest(int debt) {
            int best = -1;
            for (int t : knowers(debt)) {
                if (best < 0 || tusks.get(t).age > tusks.get(best).age) {
                    best = t;
                }
            }
            return best;
        }

        void move(int man, int much) {
            purses.set(man, purses.get(man) + much);
        }

        void finish(int debt, int how) {
            debts.get(debt).state = how;
            for (Tusk t : tusks) {
                t.knows.remove(debt);
            }
        }

        int owed(int debt) {
            return debts.get(debt).state == 1 ? debts.get(debt).owed : 0;
        }

        int number(int what) {
            int n = 0;
            for (Debt d : debts) {
                if (d.state == what) {
                    n++;
                }
            }
            return n;
        }

        int living() {
            int n = 0;
            for (Tusk t : tusks) {
                if (t.alive) {
                    n++;
                }
            }
            return n;
        }

        int net(int man) {
            int net = 0;
            for (int d = 0; d < debts.size(); d++) {
                if (debts.get(d).lender == man) {
                    net += owed(d);
                }
                if (debts.get(d).debtor == man) {
                    net -= owed(d);
                }
            }
            return net;
        }
    }

    static final class Told {
        List<String> men = new ArrayList<>();
        List<String> tusks = new ArrayList<>();
        List<Integer> buns = new ArrayList<>();
        List<int[]> leans = new ArrayList<>();
        Map<Integer, Integer> deaths = new HashMap<>();
        Map<String, Tree> laws = new HashMap<>();
        Integer rate;
        Integer seed;
        int knots;
        int lines;
        State start = new State();
    }

    /** What a trial changes; the plain one changes nothing. */
    static final class Way {
        boolean drawn;
        boolean noDeath;
        boolean noLean;
        boolean noPay;
        int mute = -1;
        Set<Integer> rumour;
    }

    // ---- text

    private static final Set<String> WORDS = Set.of("man", "tusk", "debt", "lean", "dies", "rate", "seed", "law",
        "pass", "pay", "die", "not", "and", "or", "sum", "age", "purse", "known", "days", "knows", "day");
    private static final Set<String> NAMES = Set.of("sum", "age", "purse", "known", "days", "knows", "day");
    private static final Set<String> COMPARISONS = Set.of("<", "<=", "=", "<>", ">=", ">");

    /** Reads straight from the signs, without a list of tokens. */
    static final class Parser {
        final String text;
        int at;
        int start;
        String token = "";
        final Told told = new Told();

        Parser(String text) {
            this.text = text;
            next();
        }

        void next() {
            while (at < text.length() && (text.charAt(at) == ' ' || text.charAt(at) == '\n')) {
                at++;
            }
            start = at;
            if (at == text.length()) {
                token = "";
                return;
            }
            String rest = text.substring(at);
            java.util.regex.Matcher m = java.util.regex.Pattern
                .compile("[a-z]+|[0-9]+|<=|<>|>=|[;()+*/<>=-]|(?s:.)").matcher(rest);
            m.lookingAt();
            token = m.group();
            at += token.length();
        }

        Fault fault(int kind) {
            return new Fault(kind, start);
        }

        void expect(String what) {
            if (!token.equals(what)) {
                throw fault(1);
            }
            next();
        }

        String word() {
            if (!token.matches("[a-z]{1,6}") || WORDS.contains(token)) {
                throw fault(1);
            }
            return token;
        }

        int number(int least, int most) {
            if (!token.matches("[0-9]+")) {
                throw fault(1);
            }
            BigInteger value = new BigInteger(token);
            if (value.compareTo(BigInteger.valueOf(least)) < 0 || value.compareTo(BigInteger.valueOf(most)) > 0) {
                throw fault(2);
            }
            next();
            return value.intValue();
        }

        int told(List<String> names) {
            int index = names.indexOf(word());
            if (index < 0) {
                throw fault(4);
            }
            return index;
        }

        Told all() {
            while (start < text.length()) {
                line();
                expect(";");
                told.lines++;
            }
            return told;
        }

        void room(int has, int most) {
            if (has >= most) {
                throw fault(2);
            }
            next();
        }

        String fresh(List<String> names) {
            String name = word();
            if (names.contains(name)) {
                throw fault(3);
            }
            next();
            return name;
        }

        void line() {
            switch (token) {
                case "man": {
                    room(told.men.size(), 6);
                    told.men.add(fresh(told.men));
                    told.start.purses.add(number(0, 999));
                    return;
                }
                case "tusk": {
                    room(told.tusks.size(), 6);
                    told.tusks.add(fresh(told.tusks));
                    Tusk t = new Tusk();
                    t.age = number(0, 99);
                    told.start.tusks.add(t);
                    told.buns.add(number(0, 9));
                    return;
                }
                case "debt": {
                    room(told.start.debts.size(), 8);
                    Debt d = new Debt();
                    d.lender = told(told.men);
                    next();
                    d.debtor = told(told.men);
                    if (d.debtor == d.lender) {
                        throw fault(5);
                    }
                    next();
                    d.sum = number(1, 99);
                    d.tusk = told(told.tusks);
                    next();
                    d.day = number(0, 99);
                    told.start.debts.add(d);
                    return;
                }
                case "lean": {
                    room(told.leans.size(), 10);
                    int one = told(told.tusks);
                    next();
                    int other = told(told.tusks);
                    if (one == other) {
                        throw fault(5);
                    }
                    next();
                    told.leans.add(new int[] {one, other, number(0, 99)});
                    return;
                }
                case "dies": {
                    next();
                    int tusk = told(told.tusks);
                    if (told.deaths.containsKey(tusk)) {
                        throw fault(3);
                    }
                    next();
                    told.deaths.put(tusk, number(0, 99));
                    return;
                }
                case "rate": {
                    if (told.rate != null) {
                        throw fault(3);
                    }
                    next();
                    told.rate = number(0, 100);
                    return;
                }
                case "seed": {
                    if (told.seed != null) {
                        throw fault(3);
                    }
                    next();
                    told.seed = number(0, 99999);
                    told.start.random = told.seed;
                    return;
                }
                case "law": {
                    next();
                    if (!Set.of("pass", "pay", "die").contains(token)) {
                        throw fault(1);
                    }
                    if (told.laws.containsKey(token)) {
                        throw fault(3);
                    }
                    String rule = token;
                    next();
                    told.laws.put(rule, either(0));
                    return;
                }
                default:
                    throw fault(1);
            }
        }

        String knot() {
            if (told.knots == 64) {
                throw fault(2);
            }
            told.knots++;
            String t = token;
            next();
            return t;
        }

        Tree either(int open) {
            Tree a = both(open);
            while (token.equals("or")) {
                a = join(knot(), a, both(open));
            }
            return a;
        }

        Tree both(int open) {
            Tree a = negated(open);
            while (token.equals("and")) {
                a = join(knot(), a, negated(open));
            }
            return a;
        }

        Tree negated(int open) {
            if (token.equals("not")) {
                knot();
                Tree a = negated(open);
                return names -> a.value(names).signum() == 0 ? BigInteger.ONE : BigInteger.ZERO;
            }
            Tree a = sum(open);
            if (COMPARISONS.contains(token)) {
                a = join(knot(), a, sum(open));
            }
            return a;
        }

        Tree sum(int open) {
            Tree a = product(open);
            while (token.equals("+") || token.equals("-")) {
                a = join(knot(), a, product(open));
            }
            return a;
        }

        Tree product(int open) {
            Tree a = part(open);
            while (token.equals("*") || token.equals("/")) {
                a = join(knot(), a, part(open));
            }
            return a;
        }

        Tree part(int open) {
            if (token.equals("(")) {
                if (open == 8) {
                    throw fault(2);
                }
                next();
                Tree a = either(open + 1);
                expect(")");
                return a;
            }
            if (NAMES.contains(token)) {
                String name = knot();
                return names -> BigInteger.valueOf(names.get(name));
            }
            if (!token.matches("[0-9]+")) {
                throw fault(1);
            }
            BigInteger value = new BigInteger(token);
            if (value.compareTo(BigInteger.valueOf(9999)) > 0) {
                throw fault(2);
            }
            knot();
            return names -> value;
        }

        static Tree join(String sign, Tree left, Tree right) {
            return names -> {
                BigInteger a = left.value(names);
                BigInteger b = right.value(names);
                BigInteger v = apply(sign, a, b);
                if (v.abs().compareTo(BigInteger.TEN.pow(12)) > 0) {
                    throw new Oops();
                }
                return v;
            };
        }

        static BigInteger truth(boolean is) {
            return is ? BigInteger.ONE : BigInteger.ZERO;
        }

        static BigInteger apply(String sign, BigInteger a, BigInteger b) {
            switch (sign) {
                case "+":
                    return a.add(b);
                case "-":
                    return a.subtract(b);
                case "*":
                    return a.multiply(b);
                case "/":
                    if (b.signum() == 0) {
                        throw new Oops();
                    }
                    return a.divide(b);
                case "and":
                    return truth(a.signum() != 0 && b.signum() != 0);
                case "or":
                    return truth(a.signum() != 0 || b.signum() != 0);
                case "<":
                    return truth(a.compareTo(b) < 0);
                case "<=":
                    return truth(a.compareTo(b) <= 0);
                case "=":
                    return truth(a.equals(b));
                case "<>":
                    return truth(!a.equals(b));
                case ">=":
                    return truth(a.compareTo(b) >= 0);
                default:
                    return truth(a.compareTo(b) > 0);
            }
        }
    }

    // ---- the object

    private final StringBuilder tape = new StringBuilder();
    private int fault;
    private int place = -1;
    private Told told = new Told();
    private State now = new State();
    private State image;
    private final List<State> past = new ArrayList<>();
    private final List<int[]> seen = new ArrayList<>();
    private int by = -1;

    int feed(int a, int b, int c, int d, int e) {
        if (tape.length() > 680) {
            return -1;
        }
        for (int v : new int[] {a, b, c, d, e}) {
            for (int i = 3; i >= 0; i--) {
                tape.append((char) (v >>> 8 * i & 255));
            }
        }
        return tape.length();
    }

    int text(int n) {
        if (n < 0 || n > tape.length()) {
            return -2;
        }
        String text = tape.substring(0, n);
        tape.setLength(0);
        try {
            Told t = new Parser(text).all();
            told = t;
        } catch (Fault f) {
            fault = f.kind;
            place = f.place;
            return -1;
        }
        fault = 0;
        place = -1;
        now = told.start.copy();
        image = null;
        past.clear();
        seen.clear();
        by = -1;
        return told.lines;
    }

    int fault(int what) {
        return what == 0 ? fault : what == 1 ? place : -1;
    }

    int named(int what, int letters) {
        if (what != 0 && what != 1) {
            return -1;
        }
        List<String> names = what == 0 ? told.men : told.tusks;
        for (int i = 0; i < names.size(); i++) {
            long code = 0;
            for (int k = 0; k < 6; k++) {
                code = code * 32 + (k < names.get(i).length() ? names.get(i).charAt(k) - 96 : 0);
            }
            if (code == letters) {
                return i;
            }
        }
        return -1;
    }

    private boolean man(int m) {
        return m >= 0 && m < told.men.size();
    }

    private boolean tusk(int t) {
        return t >= 0 && t < told.tusks.size();
    }

    private boolean debt(int d) {
        return d >= 0 && d < now.debts.size();
    }

    private static int bits(Iterable<Integer> set) {
        int bits = 0;
        for (int i : set) {
            bits += 1 << i;
        }
        return bits;
    }

    int debt(int debt, int what) {
        if (!debt(debt)) {
            throw new IndexOutOfBoundsException();
        }
        if (what < 0 || what > 7) {
            throw new NoSuchElementException();
        }
        Debt d = now.debts.get(debt);
        return new int[] {d.lender, d.debtor, d.sum, d.tusk, d.day, d.state, now.owed(debt),
            bits(now.knowers(debt))}[what];
    }

    int man(int man, int what) {
        if (!man(man) || what != 0 && what != 1) {
            return Integer.MIN_VALUE;
        }
        return what == 0 ? now.purses.get(man) : now.net(man);
    }

    int tusk(int tusk, int what) {
        if (!tusk(tusk) || what < 0 || what > 4) {
            return -1;
        }
        Tusk t = now.tusks.get(tusk);
        int alone = 0;
        for (int d : t.knows) {
            if (now.knowers(d).size() == 1) {
                alone += 1 << d;
            }
        }
        return new int[] {t.age, told.buns.get(tusk), t.alive ? 1 : 0, bits(t.knows), alone}[what];
    }

    /** Null: an ERROR, no such law. */
    private Long value(String rule, Map<String, Long> names) {
        if (!told.laws.containsKey(rule)) {
            return null;
        }
        try {
            return told.laws.get(rule).value(names).longValueExact();
        } catch (Oops e) {
            return null;
        }
    }

    private Map<String, Long> names(State s, int debt, long age, long knows) {
        Debt d = s.debts.get(debt);
        Map<String, Long> names = new HashMap<>();
        names.put("sum", (long) s.owed(debt));
        names.put("age", age);
        names.put("purse", (long) s.purses.get(d.debtor));
        names.put("known", (long) s.knowers(debt).size());
        names.put("days", d.state == 1 ? (long) (s.day - d.opened) : 0L);
        names.put("knows", knows);
        names.put("day", (long) s.day);
        return names;
    }

    private Long pass(State s, int debt, int tusk) {
        Tusk t = s.tusks.get(tusk);
        return value("pass", names(s, debt, t.age, t.knows.size()));
    }

    private Long pay(State s, int debt) {
        int oldest = s.oldest(debt);
        return value("pay", names(s, debt, oldest < 0 ? 0 : s.tusks.get(oldest).age, 0));
    }

    private Long die(State s, int tusk, int age) {
        long knows = s.tusks.get(tusk).knows.size();
        return value("die", Map.of("sum", 0L, "age", (long) age, "purse", 0L, "known", knows, "days", 0L,
            "knows", knows, "day", (long) s.day));
    }

    private int odds(State s, int tusk, int age) {
        Long v = die(s, tusk, age);
        if (v == null) {
            return age < 60 ? 0 : age - 60;
        }
        return v < 0 ? 0 : v > 100 ? 100 : (int) (long) v;
    }

    long law(int what, int debt, int tusk) {
        Long v = null;
        if (what == 0 && debt(debt) && tusk(tusk)) {
            v = pass(now, debt, tusk);
        } else if (what == 1 && debt(debt)) {
            v = pay(now, debt);
        } else if (what == 2 && tusk(tusk)) {
            v = die(now, tusk, now.tusks.get(tusk).age);
        }
        return v == null ? Long.MIN_VALUE : v;
    }

    // ---- days

    private boolean lends(State s, int debt, int mute) {
        Debt d = s.debts.get(debt);
        int buns = told.buns.get(d.tusk);
        if (!s.tusks.get(d.tusk).alive || s.purses.get(d.lender) < d.sum + buns) {
            return false;
        }
        s.move(d.lender, -d.sum - buns);
        s.move(d.debtor, d.sum);
        d.state = 1;
        d.owed = d.sum;
        d.opened = s.day;
        if (d.tusk != mute) {
            s.tusks.get(d.tusk).knows.add(debt);
        }
        return true;
    }

    private int leans(State s, int one, int other, int mute) {
        int n = 0;
        if (other == mute) {
            return 0;
        }
        for (int d = 0; d < s.debts.size(); d++) {
            if (s.tusks.get(one).knows.contains(d) && !s.tusks.get(other).knows.contains(d)) {
                Long v = pass(s, d, one);
                if (v == null || v != 0) {
                    s.tusks.get(other).knows.add(d);
                    n++;
                }
            }
        }
        return n;
    }

    private void dies(State s, int tusk, Way way) {
        s.tusks.get(tusk).alive = false;
        s.tusks.get(tusk).knows.clear();
        if (way.rumour != null) {
            way.rumour.remove(tusk);
        }
    }

    private void pays(State s, int d) {
        Debt debt = s.debts.get(d);
        s.move(debt.debtor, -debt.owed);
        s.move(debt.lender, debt.owed);
        s.finish(d, 2);
    }

    private void day(State s, Way way) {
        for (int d = 0; d < s.debts.size(); d++) {
            Debt debt = s.debts.get(d);
            if (debt.state == 0 && debt.day == s.day && !lends(s, d, way.mute)) {
                debt.state = 4;
            }
        }
        for (int[] lean : told.leans) {
            if (!way.noLean && lean[2] == s.day && s.tusks.get(lean[0]).alive && s.tusks.get(lean[1]).alive) {
                leans(s, lean[0], lean[1], way.mute);
                if (way.rumour != null && way.rumour.contains(lean[0])) {
                    way.rumour.add(lean[1]);
                }
            }
        }
        for (int t = 0; t < s.tusks.size(); t++) {
            Integer death = told.deaths.get(t);
            if (!way.noDeath && death != null && death == s.day && s.tusks.get(t).alive) {
                dies(s, t, way);
            }
        }
        for (int d = 0; d < s.debts.size(); d++) {
            Debt debt = s.debts.get(d);
            if (!way.noPay && debt.state == 1 && s.purses.get(debt.debtor) >= debt.owed) {
                Long v = pay(s, d);
                if (v == null ? s.day - debt.opened >= 5 : v != 0) {
                    pays(s, d);
                }
            }
        }
        if (s.day % 10 == 9) {
            tenth(s, way);
        }
        for (int d = 0; d < s.debts.size(); d++) {
            if (s.debts.get(d).state == 1 && s.knowers(d).isEmpty()) {
                s.finish(d, 3);
            }
        }
        s.day++;
    }

    private void tenth(State s, Way way) {
        int rate = told.rate == null ? 0 : told.rate;
        for (Debt debt : s.debts) {
            if (debt.state == 1) {
                debt.owed += debt.owed * rate / 100;
                if (debt.owed > 9999) {
                    debt.owed = 9999;
                }
            }
        }
        for (int t = 0; t < s.tusks.size(); t++) {
            Tusk tusk = s.tusks.get(t);
            if (!tusk.alive) {
                continue;
            }
            if (tusk.age < 99) {
                tusk.age++;
            }
            int odds = odds(s, t, tusk.age);
            boolean dies = odds >= 50;
            if (way.drawn) {
                dies = odds == 100;
                if (odds > 0 && odds < 100) {
                    s.random = (s.random * 1103515245L + 12345L) % (1L << 31);
                    dies = s.random / 65536 % 100 < odds;
                }
            }
            if (dies && !way.noDeath) {
                dies(s, t, way);
            }
        }
    }

    private State after(State from, int n, Way way) {
        State s = from.copy();
        for (int i = 0; i < n; i++) {
            day(s, way);
        }
        return s;
    }

    // ---- calls

    private void store() {
        past.add(now.copy());
        if (past.size() > 20) {
            past.remove(0);
        }
    }

    int lend(int lender, int debtor, int sum, int tusk) {
        if (!man(lender) || !man(debtor) || lender == debtor || sum < 1 || sum > 99 || !tusk(tusk)
            || now.debts.size() == 8) {
            return -1;
        }
        State before = now.copy();
        Debt d = new Debt();
        d.lender = lender;
        d.debtor = debtor;
        d.sum = sum;
        d.tusk = tusk;
        d.day = now.day;
        now.debts.add(d);
        if (!lends(now, now.debts.size() - 1, -1)) {
            now = before;
            return -2;
        }
        State after = now;
        now = before;
        store();
        now = after;
        return now.debts.size() - 1;
    }

    int lean(int one, int other) {
        if (!tusk(one) || !tusk(other) || one == other || !now.tusks.get(one).alive || !now.tusks.get(other).alive) {
            return -1;
        }
        store();
        return leans(now, one, other, -1);
    }

    int pay(int debt) {
        if (!debt(debt)) {
            return -1;
        }
        Debt d = now.debts.get(debt);
        if (d.state != 1 || now.purses.get(d.debtor) < d.owed) {
            return -2;
        }
        store();
        pays(now, debt);
        return d.owed;
    }

    int gift(int man, int much) {
        if (!man(man) || much < 1 || much > 99 || now.purses.get(man) + much > 99999) {
            return -1;
        }
        store();
        now.move(man, much);
        return now.purses.get(man);
    }

    int go(int n) {
        if (n < 0 || n > 99 || now.day + n > 9900) {
            return -1;
        }
        if (n > 0) {
            past.clear();
        }
        Way way = new Way();
        way.drawn = true;
        now = after(now, n, way);
        return now.day;
    }

    int ahead(int n, int what, int man) {
        if (n < 0 || n > 99 || what < 0 || what > 4 || what == 3 && !man(man)) {
            return -1;
        }
        State s = after(now, n, new Way());
        if (what == 3) {
            return s.purses.get(man);
        }
        return what == 4 ? s.living() : s.number(what + 2) - now.number(what + 2);
    }

    int ends(int debt) {
        if (!debt(debt)) {
            return -1;
        }
        for (int n = 0; n <= 99; n++) {
            if (after(now, n, new Way()).debts.get(debt).state > 1) {
                return n;
            }
        }
        return -2;
    }

    /** Groups of men by trying for each man every group told so far or a new one. */
    private int mostGroups(List<Integer> nets, int at, List<Integer> sums) {
        if (at == nets.size()) {
            for (int sum : sums) {
                if (sum != 0) {
                    return -1;
                }
            }
            return sums.size();
        }
        int best = -1;
        for (int g = 0; g <= sums.size(); g++) {
            List<Integer> copy = new ArrayList<>(sums);
            if (g == sums.size()) {
                copy.add(nets.get(at));
            } else {
                copy.set(g, copy.get(g) + nets.get(at));
            }
            best = Math.max(best, mostGroups(nets, at + 1, copy));
        }
        return best;
    }

    int clear() {
        List<Integer> nets = new ArrayList<>();
        for (int m = 0; m < told.men.size(); m++) {
            if (now.net(m) != 0) {
                nets.add(now.net(m));
            }
        }
        return nets.size() - mostGroups(nets, 0, new ArrayList<>());
    }

    int keep(int debt, int n) {
        if (!debt(debt) || n < 0 || n > 60) {
            return -1;
        }
        if (now.debts.get(debt).state != 1) {
            return -2;
        }
        int best = -2;
        for (int set = 0; set < 1 << told.tusks.size(); set++) {
            if (best >= 0 && Integer.bitCount(set) >= Integer.bitCount(best)) {
                continue;
            }
            State s = now.copy();
            boolean fits = true;
            for (int t = 0; t < s.tusks.size(); t++) {
                s.tusks.get(t).knows.remove(debt);
                if ((set >> t & 1) != 0) {
                    s.tusks.get(t).knows.add(debt);
                    fits &= s.tusks.get(t).alive;
                }
            }
            if (fits) {
                State end = after(s, n, new Way());
                if (end.debts.get(debt).state == 2 || !end.knowers(debt).isEmpty()) {
                    best = set;
                }
            }
        }
        return best;
    }

    private void rows(List<Integer> row, List<Integer> left, List<List<Integer>> all) {
        if (left.isEmpty()) {
            all.add(row);
        }
        for (int d : left) {
            List<Integer> longer = new ArrayList<>(row);
            longer.add(d);
            List<Integer> fewer = new ArrayList<>(left);
            fewer.remove((Integer) d);
            rows(longer, fewer, all);
        }
    }

    int order(int what) {
        if (what < 0 || what > 4) {
            return -1;
        }
        List<Integer> open = new ArrayList<>();
        for (int d = 0; d < now.debts.size() && open.size() < 4; d++) {
            if (now.debts.get(d).state == 1) {
                open.add(d);
            }
        }
        List<List<Integer>> all = new ArrayList<>();
        rows(new ArrayList<>(), open, all);
        int most = -1;
        List<Integer> best = null;
        for (List<Integer> row : all) {
            State s = now.copy();
            int paid = 0;
            for (int d : row) {
                if (s.purses.get(s.debts.get(d).debtor) >= s.debts.get(d).owed) {
                    paid += s.debts.get(d).owed;
                    pays(s, d);
                }
            }
            if (paid > most) {
                most = paid;
                best = row;
            }
        }
        return what == 4 ? most : what < best.size() ? best.get(what) : -2;
    }

    private List<Integer> allRests(int one, int other) {
        if (!debt(one) || !debt(other) || one == other || now.debts.get(one).state != 1
            || now.debts.get(other).state != 1 || now.debts.get(one).debtor != now.debts.get(other).debtor) {
            return null;
        }
        int purse = now.purses.get(now.debts.get(one).debtor);
        int a = now.debts.get(one).owed;
        int b = now.debts.get(other).owed;
        int[][] first = {{Math.min(a, purse / 2), Math.min(a, purse)},
            {Math.min(a, purse - Math.min(b, purse)) - 1, Math.min(a, purse / 2) - 1}};
        int[][] second = {{Math.min(b, purse / 2), Math.min(b, purse - Math.min(a, purse)) - 1},
            {Math.min(b, purse), Math.min(b, purse / 2) - 1}};
        List<Integer> rests = new ArrayList<>();
        for (int i = 0; i < 2; i++) {
            for (int j = 0; j < 2; j++) {
                if (first[i][j] >= first[1 - i][j] && second[i][j] >= second[i][1 - j]) {
                    rests.add(10 * i + j);
                }
            }
        }
        return rests;
    }

    int rests(int one, int other) {
        List<Integer> all = allRests(one, other);
        return all == null ? -1 : all.size();
    }

    int rest(int one, int other, int k) {
        List<Integer> all = allRests(one, other);
        return all == null || k < 0 ? -1 : k < all.size() ? all.get(k) : -2;
    }

    long lives(int tusk, int n, int what) {
        if (!tusk(tusk) || n < 0 || n > 6 || what < 0 || what > 1 || !now.tusks.get(tusk).alive) {
            return -1;
        }
        BigInteger above = BigInteger.ONE;
        for (int i = 1; i <= n; i++) {
            int age = Math.min(99, now.tusks.get(tusk).age + i);
            above = above.multiply(BigInteger.valueOf(100 - odds(now, tusk, age)));
        }
        BigInteger below = BigInteger.valueOf(100).pow(n);
        BigInteger g = above.gcd(below);
        return (what == 0 ? above : below).divide(g).longValueExact();
    }

    int before(int what) {
        if (what != 0 && what != 1) {
            return -1;
        }
        int best = -1;
        int longest = -1;
        for (int t = 0; t < now.tusks.size(); t++) {
            if (!now.tusks.get(t).alive) {
                continue;
            }
            Way way = new Way();
            way.rumour = new TreeSet<>();
            way.rumour.add(t);
            State s = now.copy();
            int days = 0;
            while (days < 99 && !way.rumour.isEmpty()) {
                day(s, way);
                days++;
            }
            if (days > longest || days == longest && told.buns.get(t) < told.buns.get(best)) {
                longest = days;
                best = t;
            }
        }
        return best < 0 ? -2 : what == 0 ? best : longest;
    }

    private boolean comesTo(int from, int to, Set<Integer> met) {
        for (Debt d : now.debts) {
            if (d.state == 1 && d.debtor == from
                && (d.lender == to || met.add(d.lender) && comesTo(d.lender, to, met))) {
                return true;
            }
        }
        return false;
    }

    int ring() {
        int bits = 0;
        for (int m = 0; m < told.men.size(); m++) {
            if (comesTo(m, m, new TreeSet<>())) {
                bits += 1 << m;
            }
        }
        return bits;
    }

    int oldest(int debt) {
        if (!debt(debt)) {
            return -1;
        }
        int t = now.oldest(debt);
        return t < 0 ? -2 : t;
    }

    int see(int days, int debt, boolean isPaid) {
        if (days < 1 || days > 40 || debt < 0 || debt >= told.start.debts.size() || seen.size() == 24) {
            return -1;
        }
        seen.add(new int[] {days, debt, isPaid ? 1 : 0});
        return seen.size() - 1;
    }

    int out(int one) {
        if (one < 0 || one >= seen.size() || seen.size() == 24) {
            return -1;
        }
        seen.add(new int[] {one});
        return seen.size() - 1;
    }

    boolean known(int n) {
        if (n < -1 || n > seen.size()) {
            return false;
        }
        by = n;
        return true;
    }

    private boolean struck(int i, int ruling) {
        for (int k = i + 1; k < ruling; k++) {
            if (seen.get(k).length == 1 && seen.get(k)[0] == i && !struck(k, ruling)) {
                return true;
            }
        }
        return false;
    }

    int had(int man) {
        if (!man(man)) {
            return -1;
        }
        int ruling = by < 0 ? seen.size() : by;
        int bits = 0;
        for (int p = 0; p < 10; p++) {
            State s = told.start.copy();
            s.purses.set(man, 10 * p);
            boolean fits = true;
            List<State> days = new ArrayList<>();
            days.add(s);
            for (int n = 1; n <= 40; n++) {
                days.add(after(days.get(n - 1), 1, new Way()));
            }
            for (int i = 0; i < ruling; i++) {
                int[] one = seen.get(i);
                if (one.length == 3 && !struck(i, ruling)) {
                    fits &= days.get(one[0]).debts.get(one[1]).state == 2 == (one[2] == 1);
                }
            }
            bits += fits ? 1 << p : 0;
        }
        return bits;
    }

    int chance(int seed, int n, int tusk) {
        if (seed < 0 || n < 1 || n > 99 || !tusk(tusk)) {
            return -1;
        }
        Way way = new Way();
        way.drawn = true;
        long random = seed;
        int times = 0;
        for (int i = 0; i < 10; i++) {
            State s = now.copy();
            s.random = random;
            s = after(s, n, way);
            random = s.random;
            times += s.tusks.get(tusk).alive ? 1 : 0;
        }
        return times;
    }

    int tried(int what, int i, int n) {
        if (what < 0 || what > 5 || n < 0 || n > 99 || (what == 2 ? !tusk(i) : i != 0)) {
            return -1;
        }
        Way way = new Way();
        way.noDeath = what == 1;
        way.mute = what == 2 ? i : -1;
        way.noLean = what == 3;
        way.noPay = what == 4;
        State s = now.copy();
        if (what == 2) {
            s.tusks.get(i).knows.clear();
        }
        if (what == 5) {
            for (Tusk t : s.tusks) {
                for (int d = 0; d < s.debts.size() && t.alive; d++) {
                    if (s.debts.get(d).state == 1) {
                        t.knows.add(d);
                    }
                }
            }
        }
        return after(s, n, way).number(3) - now.number(3);
    }

    int undo() {
        if (past.isEmpty()) {
            return -1;
        }
        now = past.remove(past.size() - 1);
        return past.size();
    }

    int image() {
        image = now.copy();
        return now.day;
    }

    int back() {
        if (image == null) {
            return -1;
        }
        now = image.copy();
        past.clear();
        return now.day;
    }

    int count(int what) {
        int owed = 0;
        for (int d = 0; d < now.debts.size(); d++) {
            owed += now.owed(d);
        }
        int purses = 0;
        for (int p : now.purses) {
            purses += p;
        }
        int[] all = {told.men.size(), told.tusks.size(), now.debts.size(), told.knots, now.day, now.number(1),
            now.number(2), now.number(3), now.number(4), now.living(), owed, purses, seen.size(),
            by < 0 ? seen.size() : by, past.size()};
        return what < 0 || what >= all.length ? -1 : all[what];
    }
}
