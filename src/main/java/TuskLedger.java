import java.util.NoSuchElementException;

/** Elephants keep the ledgers of men: who lent what before whom, who remembers it, and what comes of it. */
public final class TuskLedger {
    public static final int NONE = -1;

    private static final int REFUSAL = -2;

    private static final int MOST_BYTES = 700;
    private static final int BYTES_FED = 20;
    private static final int MOST_MEN = 6;
    private static final int MOST_TUSKS = 6;
    private static final int MOST_DEBTS = 8;
    private static final int MOST_LEANS = 10;
    private static final int MOST_KNOTS = 64;
    private static final int MOST_BRACKETS = 8;
    private static final int MOST_SEEN = 24;
    private static final int MOST_UNDONE = 20;
    private static final int MOST_SEEN_DAYS = 40;
    private static final int MOST_KEPT_DAYS = 60;
    private static final int MOST_TENTH_DAYS = 6;
    private static final int MOST_DAYS = 99;
    private static final int MOST_AGE = 99;
    private static final int MOST_SUM = 99;
    private static final int MOST_OWED = 9999;
    private static final int MOST_PURSE = 99999;
    private static final int LAST_DAY = 9900;
    private static final int TIMES_DRAWN = 10;
    private static final int PURSES_TRIED = 10;
    private static final int ORDERED = 4;

    private static final int TO_COME = 0;
    private static final int OPEN = 1;
    private static final int PAID = 2;
    private static final int FORGIVEN = 3;
    private static final int REFUSED = 4;

    /** The ways of TRIED have the numbers of the document; days by numbers stand outside of these. */
    private static final int DRAWN = -1;
    private static final int AS_IT_GOES = 0;
    private static final int NOBODY_DIES = 1;
    private static final int ONE_KNOWS_NOTHING = 2;
    private static final int NOBODY_LEANS = 3;
    private static final int NOBODY_PAYS = 4;
    private static final int ALL_KNOW_ALL = 5;

    /** No value of an E is so far from 0, so it can stand for an ERROR and for a law that isn't told. */
    private static final long ERROR = Long.MIN_VALUE;
    private static final long MOST_VALUE = 1000000000000L;

    private static final int NOT_A_TOKEN = 1;
    private static final int TOO_MUCH = 2;
    private static final int TOLD_ALREADY = 3;
    private static final int NOT_TOLD = 4;
    private static final int TO_ONESELF = 5;

    /** The words of the language, six signs each; a word's place among them is its token's kind. */
    private static final String WORDS =
        "man   tusk  debt  lean  dies  rate  seed  law   pass  pay   die   not   and   or    sum   age   purse known days  knows day   ";
    private static final int LETTERS = 6;
    private static final int MAN = 0;
    private static final int TUSK = 1;
    private static final int DEBT = 2;
    private static final int LEAN = 3;
    private static final int DIES = 4;
    private static final int RATE = 5;
    private static final int SEED = 6;
    private static final int LAW = 7;
    private static final int PASS = 8;
    private static final int PAY = 9;
    private static final int DIE = 10;
    private static final int NOT = 11;
    private static final int AND = 12;
    private static final int OR = 13;
    private static final int FIRST_NAME = 14;
    private static final int LAST_NAME = 20;
    private static final int NAMES = 7;
    private static final int SEMICOLON = 21;
    private static final int LEFT = 22;
    private static final int RIGHT = 23;
    private static final int PLUS = 24;
    private static final int MINUS = 25;
    private static final int TIMES = 26;
    private static final int BY = 27;
    private static final int BELOW = 28;
    private static final int AT_MOST = 29;
    private static final int ALIKE = 30;
    private static final int UNLIKE = 31;
    private static final int AT_LEAST = 32;
    private static final int ABOVE = 33;
    private static final int NUMBER = 34;
    private static final int WORD = 35;
    private static final int END = 36;
    private static final int NO_TOKEN = 37;
    /** In an E's code a number stands as this and the number, above all kinds of tokens. */
    private static final int NUMBER_CODE = 64;
    private static final int MOST_NUMBER = 9999;

    private static final int OR_LEVEL = 0;
    private static final int AND_LEVEL = 1;
    private static final int NOT_LEVEL = 2;
    private static final int COMPARISON_LEVEL = 3;
    private static final int SUM_LEVEL = 4;
    private static final int PRODUCT_LEVEL = 5;
    private static final int PART_LEVEL = 6;

    private final int[] tape = new int[MOST_BYTES];
    private int tapeLength;
    private final Reader reader = new Reader();
    private Story told = new Story();
    private final World now = new World();
    private final World trial = new World();
    private final World image = new World();
    private boolean hasImage;
    private final Past past = new Past();
    private final Course course = new Course(told, now);
    private final Seen sights = new Seen();
    private final Reckoner reckoner = new Reckoner();

    public TuskLedger() {
    }

    public int feed(int a, int b, int c, int d, int e) {
        if (tapeLength + BYTES_FED > MOST_BYTES) {
            return NONE;
        }
        addBytes(a);
        addBytes(b);
        addBytes(c);
        addBytes(d);
        addBytes(e);
        return tapeLength;
    }

    private void addBytes(int four) {
        for (int shift = 24; shift >= 0 && tapeLength < MOST_BYTES; shift -= 8) {
            tape[tapeLength] = four >> shift & 255;
            tapeLength++;
        }
    }

    public int text(int n) {
        if (n < 0 || n > tapeLength) {
            return REFUSAL;
        }
        tapeLength = 0;
        if (!reader.read(tape, n)) {
            return NONE;
        }
        told = reader.exchange(told);
        now.copyFrom(told.start);
        sights.forget();
        past.count = 0;
        hasImage = false;
        return told.lines;
    }

    public int fault(int what) {
        if (what == 0) {
            return reader.fault;
        }
        return what == 1 ? reader.place : NONE;
    }

    public int named(int what, int letters) {
        if (what == 0) {
            return indexOf(letters, told.manNames, told.men);
        }
        return what == 1 ? indexOf(letters, told.tuskNames, told.tusks) : NONE;
    }

    public int debt(int debt, int what) throws IndexOutOfBoundsException, NoSuchElementException {
        if (!isDebt(debt)) {
            throw new IndexOutOfBoundsException();
        }
        switch (what) {
            case 0:
                return now.lender[debt];
            case 1:
                return now.debtor[debt];
            case 2:
                return now.sum[debt];
            case 3:
                return now.witness[debt];
            case 4:
                return now.due[debt];
            case 5:
                return now.kind[debt];
            case 6:
                return now.owed[debt];
            case 7:
                return now.knowers[debt];
            default:
                throw new NoSuchElementException();
        }
    }

    public int man(int man, int what) {
        if (!isMan(man) || what < 0 || what > 1) {
            return Integer.MIN_VALUE;
        }
        return what == 0 ? now.purseOf(man) : now.netOf(man);
    }

    public int tusk(int tusk, int what) {
        if (!isTusk(tusk)) {
            return NONE;
        }
        switch (what) {
            case 0:
                return now.age[tusk];
            case 1:
                return told.buns[tusk];
            case 2:
                return now.isAlive(tusk) ? 1 : 0;
            case 3:
                return now.debtsKnownBy(tusk);
            case 4:
                return now.debtsKnownOnlyBy(tusk);
            default:
                return NONE;
        }
    }

    public long law(int what, int debt, int tusk) {
        course.follow(told, now, DRAWN, 0);
        if (what == 0 && isDebt(debt) && isTusk(tusk)) {
            return course.passValue(debt, tusk);
        }
        if (what == 1 && isDebt(debt)) {
            return course.payValue(debt);
        }
        if (what == 2 && isTusk(tusk)) {
            return course.dieValue(tusk, now.age[tusk]);
        }
        return ERROR;
    }

    public int lend(int lender, int debtor, int sum, int tusk) {
        if (!isMan(lender) || !isMan(debtor) || lender == debtor || !isTusk(tusk)) {
            return NONE;
        }
        if (sum < 1 || sum > MOST_SUM || now.debts >= MOST_DEBTS) {
            return NONE;
        }
        if (!now.isAlive(tusk) || now.purseOf(lender) < sum + told.buns[tusk]) {
            return REFUSAL;
        }
        past.store(now);
        int debt = now.debts;
        now.addDebt(lender, debtor, sum, tusk, now.day);
        now.open(debt, told.buns[tusk], 0);
        return debt;
    }

    public int lean(int one, int other) {
        if (!isTusk(one) || !isTusk(other) || one == other || !now.isAlive(one) || !now.isAlive(other)) {
            return NONE;
        }
        past.store(now);
        course.follow(told, now, DRAWN, 0);
        return course.passOn(one, other);
    }

    public int pay(int debt) {
        if (!isDebt(debt)) {
            return NONE;
        }
        if (now.kind[debt] != OPEN || !now.isInPurse(debt)) {
            return REFUSAL;
        }
        past.store(now);
        int owed = now.owed[debt];
        now.settle(debt);
        return owed;
    }

    public int gift(int man, int much) {
        if (!isMan(man) || much < 1 || much > MOST_SUM || now.purseOf(man) + much > MOST_PURSE) {
            return NONE;
        }
        past.store(now);
        now.earn(man, much);
        return now.purseOf(man);
    }

    public int go(int n) {
        if (n < 0 || n > MOST_DAYS || now.day + n > LAST_DAY) {
            return NONE;
        }
        if (n > 0) {
            past.count = 0;
        }
        course.follow(told, now, DRAWN, 0);
        course.run(n);
        return now.day;
    }

    public int ahead(int n, int what, int man) {
        if (n < 0 || n > MOST_DAYS || what < 0 || what > 4 || what == 3 && !isMan(man)) {
            return NONE;
        }
        startTrial(AS_IT_GOES, 0);
        course.run(n);
        if (what == 3) {
            return trial.purseOf(man);
        }
        if (what == 4) {
            return Integer.bitCount(trial.alive);
        }
        int kind = PAID + what;
        return trial.countOf(kind) - now.countOf(kind);
    }

    private void startTrial(int way, int deaf) {
        trial.copyFrom(now);
        course.follow(told, trial, way, deaf);
    }

    public int ends(int debt) {
        if (!isDebt(debt)) {
            return NONE;
        }
        startTrial(AS_IT_GOES, 0);
        for (int days = 0; days <= MOST_DAYS; days++) {
            if (trial.kind[debt] != TO_COME && trial.kind[debt] != OPEN) {
                return days;
            }
            course.oneDay();
        }
        return REFUSAL;
    }

    public int clear() {
        return reckoner.fewestPayings(now, told.men);
    }

    public int keep(int debt, int n) {
        if (!isDebt(debt) || n < 0 || n > MOST_KEPT_DAYS) {
            return NONE;
        }
        if (now.kind[debt] != OPEN) {
            return REFUSAL;
        }
        for (int few = 0; few <= MOST_TUSKS; few++) {
            for (int bits = 0; bits < 1 << MOST_TUSKS; bits++) {
                if ((bits & ~now.alive) == 0 && Integer.bitCount(bits) == few && isKeptBy(bits, debt, n)) {
                    return bits;
                }
            }
        }
        return REFUSAL;
    }

    private boolean isKeptBy(int bits, int debt, int n) {
        startTrial(AS_IT_GOES, 0);
        trial.knowers[debt] = bits;
        for (int days = 0; days < n && trial.kind[debt] == OPEN; days++) {
            course.oneDay();
        }
        return trial.kind[debt] == PAID || trial.knowers[debt] != 0;
    }

    public int order(int what) {
        if (what < 0 || what > ORDERED) {
            return NONE;
        }
        reckoner.findOrder(now);
        if (what == ORDERED) {
            return reckoner.mostPaid;
        }
        return what < reckoner.opens ? reckoner.order[what] : REFUSAL;
    }

    public int rests(int one, int other) {
        return canAsk(one, other) ? reckoner.findRests(now, one, other) : NONE;
    }

    public int rest(int one, int other, int k) {
        if (!canAsk(one, other) || k < 0) {
            return NONE;
        }
        int count = reckoner.findRests(now, one, other);
        return k < count && k < reckoner.restsFound.length ? reckoner.restsFound[k] : REFUSAL;
    }

    private boolean canAsk(int one, int other) {
        return isDebt(one) && isDebt(other) && one != other && now.kind[one] == OPEN && now.kind[other] == OPEN
            && now.debtor[one] == now.debtor[other];
    }

    public long lives(int tusk, int n, int what) {
        if (!isTusk(tusk) || !now.isAlive(tusk) || n < 0 || n > MOST_TENTH_DAYS || what < 0 || what > 1) {
            return NONE;
        }
        course.follow(told, now, AS_IT_GOES, 0);
        long above = 1;
        long below = 1;
        for (int i = 1; i <= n; i++) {
            above *= 100 - course.oddsOf(tusk, Math.min(MOST_AGE, now.age[tusk] + i));
            below *= 100;
        }
        long common = commonDivisor(above, below);
        if (common < 1) {
            return NONE;
        }
        return what == 0 ? above / common : below / common;
    }

    private static long commonDivisor(long a, long b) {
        long greater = a;
        long less = b;
        // Euclid's steps for numbers up to 10 to the 12 are fewer than 60.
        for (int i = 0; i < 100 && less != 0; i++) {
            long left = greater % less;
            greater = less;
            less = left;
        }
        return greater;
    }

    public int before(int what) {
        if (what < 0 || what > 1) {
            return NONE;
        }
        int best = NONE;
        int bestDays = 0;
        findLastings();
        for (int tusk = 0; tusk < told.tusks; tusk++) {
            int days = reckoner.lastings[tusk];
            boolean isCheaper = best == NONE || days == bestDays && told.buns[tusk] < told.buns[best];
            if (now.isAlive(tusk) && (isCheaper || days > bestDays)) {
                best = tusk;
                bestDays = days;
            }
        }
        if (best == NONE) {
            return REFUSAL;
        }
        return what == 0 ? best : bestDays;
    }

    /** One run serves all elephants: each has a rumour of its own, and rumours change nothing else. */
    private void findLastings() {
        startTrial(AS_IT_GOES, 0);
        for (int tusk = 0; tusk < told.tusks; tusk++) {
            trial.knowers[MOST_DEBTS + tusk] = 1 << tusk & now.alive;
            reckoner.lastings[tusk] = 0;
        }
        for (int day = 1; day <= MOST_DAYS; day++) {
            for (int tusk = 0; tusk < told.tusks; tusk++) {
                if (trial.knowers[MOST_DEBTS + tusk] != 0) {
                    reckoner.lastings[tusk] = day;
                }
            }
            course.oneDay();
        }
    }

    public int ring() {
        return reckoner.ringOf(now, told.men);
    }

    public int oldest(int debt) {
        if (!isDebt(debt)) {
            return NONE;
        }
        int tusk = now.oldestOf(debt);
        return tusk == NONE ? REFUSAL : tusk;
    }

    public int see(int days, int debt, boolean isPaid) {
        if (days < 1 || days > MOST_SEEN_DAYS || debt < 0 || debt >= told.start.debts) {
            return NONE;
        }
        return sights.add(days, debt, isPaid, NONE);
    }

    public int out(int seen) {
        if (seen < 0 || seen >= sights.count) {
            return NONE;
        }
        return sights.add(0, 0, false, seen);
    }

    public boolean known(int n) {
        if (n < NONE || n > sights.count) {
            return false;
        }
        sights.by = n;
        return true;
    }

    public int had(int man) {
        if (!isMan(man)) {
            return NONE;
        }
        sights.strikeOut();
        int bits = 0;
        for (int i = 0; i < PURSES_TRIED; i++) {
            if (isAsSeen(man, 10 * i)) {
                bits |= 1 << i;
            }
        }
        return bits;
    }

    private boolean isAsSeen(int man, int purse) {
        trial.copyFrom(told.start);
        trial.earn(man, purse - trial.purseOf(man));
        course.follow(told, trial, AS_IT_GOES, 0);
        for (int days = 1; days <= MOST_SEEN_DAYS; days++) {
            course.oneDay();
            if (!sights.agrees(days, trial)) {
                return false;
            }
        }
        return true;
    }

    public int chance(int seed, int n, int tusk) {
        if (seed < 0 || n < 1 || n > MOST_DAYS || !isTusk(tusk)) {
            return NONE;
        }
        int number = seed;
        int times = 0;
        for (int i = 0; i < TIMES_DRAWN; i++) {
            startTrial(DRAWN, 0);
            trial.number = number;
            course.run(n);
            number = trial.number;
            times += trial.isAlive(tusk) ? 1 : 0;
        }
        return times;
    }

    public int tried(int what, int i, int n) {
        if (what < AS_IT_GOES || what > ALL_KNOW_ALL || n < 0 || n > MOST_DAYS) {
            return NONE;
        }
        if (what == ONE_KNOWS_NOTHING ? !isTusk(i) : i != 0) {
            return NONE;
        }
        int deaf = what == ONE_KNOWS_NOTHING ? 1 << i : 0;
        startTrial(what, deaf);
        trial.forgetAll(deaf);
        if (what == ALL_KNOW_ALL) {
            trial.tellAll();
        }
        course.run(n);
        return trial.countOf(FORGIVEN) - now.countOf(FORGIVEN);
    }

    public int undo() {
        if (past.count == 0) {
            return NONE;
        }
        past.restore(now);
        return past.count;
    }

    public int image() {
        image.copyFrom(now);
        hasImage = true;
        return now.day;
    }

    public int back() {
        if (!hasImage) {
            return NONE;
        }
        now.copyFrom(image);
        past.count = 0;
        return now.day;
    }

    public int count(int what) {
        switch (what) {
            case 0:
                return told.men;
            case 1:
                return told.tusks;
            case 2:
                return now.debts;
            case 3:
                return told.knots;
            case 4:
                return now.day;
            case 5:
            case 6:
            case 7:
            case 8:
                return now.countOf(what - 4);
            case 9:
                return Integer.bitCount(now.alive);
            case 10:
                return now.owedInSum();
            case 11:
                return now.pursesInSum(told.men);
            case 12:
                return sights.count;
            case 13:
                return sights.ruling();
            case 14:
                return past.count;
            default:
                return NONE;
        }
    }

    private boolean isMan(int man) {
        return man >= 0 && man < told.men;
    }

    private boolean isTusk(int tusk) {
        return tusk >= 0 && tusk < told.tusks;
    }

    private boolean isDebt(int debt) {
        return debt >= 0 && debt < now.debts;
    }

    private static int indexOf(int letters, int[] names, int count) {
        for (int i = 0; i < count && i < names.length; i++) {
            if (names[i] == letters) {
                return i;
            }
        }
        return NONE;
    }

    /** All that days and calls change: what is undone, kept as an image or tried is a copy of it. */
    private static final class World {
        final int[] purse = new int[MOST_MEN];
        final int[] age = new int[MOST_TUSKS];
        final int[] lender = new int[MOST_DEBTS];
        final int[] debtor = new int[MOST_DEBTS];
        final int[] sum = new int[MOST_DEBTS];
        final int[] witness = new int[MOST_DEBTS];
        final int[] due = new int[MOST_DEBTS];
        final int[] kind = new int[MOST_DEBTS];
        final int[] owed = new int[MOST_DEBTS];
        final int[] since = new int[MOST_DEBTS];
        /** Who knows each debt; behind the debts the rumours of before(), one of each elephant. */
        final int[] knowers = new int[MOST_DEBTS + MOST_TUSKS];
        int debts;
        int alive;
        int day;
        int number;

        void copyFrom(World from) {
            System.arraycopy(from.purse, 0, purse, 0, MOST_MEN);
            System.arraycopy(from.age, 0, age, 0, MOST_TUSKS);
            System.arraycopy(from.lender, 0, lender, 0, MOST_DEBTS);
            System.arraycopy(from.debtor, 0, debtor, 0, MOST_DEBTS);
            System.arraycopy(from.sum, 0, sum, 0, MOST_DEBTS);
            System.arraycopy(from.witness, 0, witness, 0, MOST_DEBTS);
            System.arraycopy(from.due, 0, due, 0, MOST_DEBTS);
            System.arraycopy(from.kind, 0, kind, 0, MOST_DEBTS);
            System.arraycopy(from.owed, 0, owed, 0, MOST_DEBTS);
            System.arraycopy(from.since, 0, since, 0, MOST_DEBTS);
            System.arraycopy(from.knowers, 0, knowers, 0, MOST_DEBTS + MOST_TUSKS);
            debts = from.debts;
            alive = from.alive;
            day = from.day;
            number = from.number;
        }

        void empty() {
            debts = 0;
            alive = 0;
            day = 0;
            number = 0;
        }

        void addDebt(int from, int to, int much, int tusk, int onDay) {
            if (debts >= MOST_DEBTS) {
                return;
            }
            lender[debts] = from;
            debtor[debts] = to;
            sum[debts] = much;
            witness[debts] = tusk;
            due[debts] = onDay;
            kind[debts] = TO_COME;
            owed[debts] = 0;
            since[debts] = 0;
            knowers[debts] = 0;
            debts++;
        }

        boolean isAlive(int tusk) {
            return (alive >> tusk & 1) != 0;
        }

        int purseOf(int man) {
            return man >= 0 && man < MOST_MEN ? purse[man] : 0;
        }

        void earn(int man, int much) {
            if (man >= 0 && man < MOST_MEN) {
                purse[man] += much;
            }
        }

        boolean isInPurse(int debt) {
            return purseOf(debtor[debt]) >= owed[debt];
        }

        int daysOpen(int debt) {
            return kind[debt] == OPEN ? day - since[debt] : 0;
        }

        void open(int debt, int buns, int deaf) {
            earn(lender[debt], -sum[debt] - buns);
            earn(debtor[debt], sum[debt]);
            kind[debt] = OPEN;
            owed[debt] = sum[debt];
            since[debt] = day;
            knowers[debt] = 1 << witness[debt] & ~deaf;
        }

        void settle(int debt) {
            earn(debtor[debt], -owed[debt]);
            earn(lender[debt], owed[debt]);
            end(debt, PAID);
        }

        void end(int debt, int how) {
            kind[debt] = how;
            owed[debt] = 0;
            knowers[debt] = 0;
        }

        void bury(int tusk) {
            alive &= ~(1 << tusk);
            forgetAll(1 << tusk);
        }

        void forgetAll(int tusks) {
            for (int i = 0; i < knowers.length; i++) {
                knowers[i] &= ~tusks;
            }
        }

        void tellAll() {
            for (int debt = 0; debt < debts; debt++) {
                if (kind[debt] == OPEN) {
                    knowers[debt] = alive;
                }
            }
        }

        int drawNumber() {
            number = (int) (number * 1103515245L + 12345L & 0x7fffffffL);
            return number / 65536;
        }

        int debtsKnownBy(int tusk) {
            int bits = 0;
            for (int debt = 0; debt < debts; debt++) {
                bits |= (knowers[debt] >> tusk & 1) << debt;
            }
            return bits;
        }

        int debtsKnownOnlyBy(int tusk) {
            int bits = 0;
            for (int debt = 0; debt < debts; debt++) {
                if (knowers[debt] == 1 << tusk) {
                    bits |= 1 << debt;
                }
            }
            return bits;
        }

        int oldestOf(int debt) {
            int oldest = NONE;
            int most = NONE;
            for (int tusk = 0; tusk < MOST_TUSKS; tusk++) {
                if ((knowers[debt] >> tusk & 1) != 0 && age[tusk] > most) {
                    oldest = tusk;
                    most = age[tusk];
                }
            }
            return oldest;
        }

        int netOf(int man) {
            int net = 0;
            for (int debt = 0; debt < debts; debt++) {
                if (lender[debt] == man) {
                    net += owed[debt];
                } else if (debtor[debt] == man) {
                    net -= owed[debt];
                }
            }
            return net;
        }

        int countOf(int what) {
            int count = 0;
            for (int debt = 0; debt < debts; debt++) {
                count += kind[debt] == what ? 1 : 0;
            }
            return count;
        }

        int owedInSum() {
            int all = 0;
            for (int debt = 0; debt < debts; debt++) {
                all += owed[debt];
            }
            return all;
        }

        int pursesInSum(int men) {
            int all = 0;
            for (int man = 0; man < men && man < MOST_MEN; man++) {
                all += purse[man];
            }
            return all;
        }
    }

    /** What a text tells and no day changes, and the world as it is told to begin. */
    private static final class Story {
        final int[] manNames = new int[MOST_MEN];
        final int[] tuskNames = new int[MOST_TUSKS];
        final int[] buns = new int[MOST_TUSKS];
        final int[] deathDays = new int[MOST_TUSKS];
        final int[] leaning = new int[MOST_LEANS];
        final int[] leanedOn = new int[MOST_LEANS];
        final int[] leanDays = new int[MOST_LEANS];
        final Law passLaw = new Law();
        final Law payLaw = new Law();
        final Law dieLaw = new Law();
        final World start = new World();
        int men;
        int tusks;
        int leans;
        int rate;
        boolean hasRate;
        boolean hasSeed;
        int knots;
        int lines;

        void empty() {
            passLaw.length = 0;
            payLaw.length = 0;
            dieLaw.length = 0;
            start.empty();
            men = 0;
            tusks = 0;
            leans = 0;
            rate = 0;
            hasRate = false;
            hasSeed = false;
            knots = 0;
            lines = 0;
        }

        void addMan(int name, int purse) {
            if (men < MOST_MEN) {
                manNames[men] = name;
                start.purse[men] = purse;
                men++;
            }
        }

        void addTusk(int name, int age, int bunsGiven) {
            if (tusks < MOST_TUSKS) {
                tuskNames[tusks] = name;
                start.age[tusks] = age;
                buns[tusks] = bunsGiven;
                deathDays[tusks] = NONE;
                start.alive |= 1 << tusks;
                tusks++;
            }
        }

        void addLeaning(int one, int other, int day) {
            if (leans < MOST_LEANS) {
                leaning[leans] = one;
                leanedOn[leans] = other;
                leanDays[leans] = day;
                leans++;
            }
        }

        int bunsOf(int tusk) {
            return tusk >= 0 && tusk < MOST_TUSKS ? buns[tusk] : 0;
        }
    }

    /** A law's E, the signs behind what they join, so that one loop with a stack works it out. */
    private static final class Law {
        final int[] codes = new int[MOST_KNOTS];
        final long[] stack = new long[MOST_KNOTS];
        /** 0: the law isn't told. */
        int length;

        void add(int code) {
            if (length < MOST_KNOTS) {
                codes[length] = code;
                length++;
            }
        }

        long value(long[] names) {
            int top = 0;
            for (int i = 0; i < length && i < MOST_KNOTS; i++) {
                int code = codes[i];
                int parts = partsOf(code);
                int at = top - parts;
                if (at < 0 || at >= MOST_KNOTS || top > MOST_KNOTS) {
                    return ERROR;
                }
                long value;
                if (parts == 0) {
                    value = leaf(code, names);
                } else if (parts == 1) {
                    value = stack[at] == 0 ? 1 : 0;
                } else {
                    value = joinedValue(code, stack[at], stack[top - 1]);
                }
                if (value == ERROR) {
                    return ERROR;
                }
                stack[at] = value;
                top = at + 1;
            }
            return top == 1 ? stack[0] : ERROR;
        }

        private static int partsOf(int code) {
            if (code >= NUMBER_CODE || code >= FIRST_NAME && code <= LAST_NAME) {
                return 0;
            }
            return code == NOT ? 1 : 2;
        }

        private static long leaf(int code, long[] names) {
            if (code >= NUMBER_CODE) {
                return code - NUMBER_CODE;
            }
            int name = code - FIRST_NAME;
            return name >= 0 && name < names.length ? names[name] : ERROR;
        }

        private static long joinedValue(int sign, long a, long b) {
            long value = 0;
            switch (sign) {
                case PLUS:
                    value = a + b;
                    break;
                case MINUS:
                    value = a - b;
                    break;
                case TIMES:
                    // Looked at ahead, for the product itself may be beyond a long.
                    if (a != 0 && (b < 0 ? -b : b) > MOST_VALUE / (a < 0 ? -a : a)) {
                        return ERROR;
                    }
                    value = a * b;
                    break;
                case BY:
                    if (b == 0) {
                        return ERROR;
                    }
                    value = a / b;
                    break;
                case AND:
                    value = a != 0 && b != 0 ? 1 : 0;
                    break;
                case OR:
                    value = a != 0 || b != 0 ? 1 : 0;
                    break;
                case BELOW:
                    value = a < b ? 1 : 0;
                    break;
                case AT_MOST:
                    value = a <= b ? 1 : 0;
                    break;
                case ALIKE:
                    value = a == b ? 1 : 0;
                    break;
                case UNLIKE:
                    value = a != b ? 1 : 0;
                    break;
                case AT_LEAST:
                    value = a >= b ? 1 : 0;
                    break;
                default:
                    value = a > b ? 1 : 0;
                    break;
            }
            return value > MOST_VALUE || value < -MOST_VALUE ? ERROR : value;
        }
    }

    /** The tokens of a text, an END behind the last one. */
    private static final class Tokens {
        private static final int MOST_TOKENS = MOST_BYTES + 1;
        /** Above every number that any place of a text allows. */
        private static final int HUGE = 1000000;

        final int[] kinds = new int[MOST_TOKENS];
        final int[] places = new int[MOST_TOKENS];
        final int[] values = new int[MOST_TOKENS];
        int count;
        private final int[] words = new int[LAST_NAME + 1];

        Tokens() {
            for (int i = 0; i < words.length; i++) {
                words[i] = wordCode(i);
            }
        }

        private static int wordCode(int word) {
            int code = 0;
            for (int i = word * LETTERS; i < (word + 1) * LETTERS && i < WORDS.length(); i++) {
                char sign = WORDS.charAt(i);
                code = code << 5 | (sign == ' ' ? 0 : sign - 'a' + 1);
            }
            return code;
        }

        void scan(int[] bytes, int n) {
            count = 0;
            int at = 0;
            for (int i = 0; i < MOST_BYTES && at < n && at < bytes.length; i++) {
                int sign = bytes[at];
                if (sign == 10 || sign == 32) {
                    at++;
                } else if (isLetter(sign)) {
                    at = scanWord(bytes, at, n);
                } else if (isDigit(sign)) {
                    at = scanNumber(bytes, at, n);
                } else {
                    at = scanSign(bytes, at, n);
                }
            }
            add(END, n, 0);
        }

        private void add(int kind, int place, int value) {
            if (count < MOST_TOKENS) {
                kinds[count] = kind;
                places[count] = place;
                values[count] = value;
                count++;
            }
        }

        private int scanWord(int[] bytes, int from, int n) {
            int code = 0;
            int at = from;
            while (at < n && at < bytes.length && isLetter(bytes[at])) {
                code = code << 5 | bytes[at] - 'a' + 1;
                at++;
            }
            int length = at - from;
            if (length > LETTERS) {
                add(NO_TOKEN, from, 0);
                return at;
            }
            code <<= 5 * (LETTERS - length);
            int word = indexOf(code, words, words.length);
            add(word == NONE ? WORD : word, from, code);
            return at;
        }

        private int scanNumber(int[] bytes, int from, int n) {
            int value = 0;
            int at = from;
            while (at < n && at < bytes.length && isDigit(bytes[at])) {
                value = Math.min(HUGE, value * 10 + bytes[at] - '0');
                at++;
            }
            add(NUMBER, from, value);
            return at;
        }

        private int scanSign(int[] bytes, int at, int n) {
            int sign = at < bytes.length ? bytes[at] : 0;
            int behind = at + 1 < n && at + 1 < bytes.length ? bytes[at + 1] : 0;
            int pair = pairKind(sign, behind);
            if (pair != NO_TOKEN) {
                add(pair, at, 0);
                return at + 2;
            }
            add(signKind(sign), at, 0);
            return at + 1;
        }

        private static int pairKind(int sign, int behind) {
            if (sign == '<' && behind == '=') {
                return AT_MOST;
            }
            if (sign == '<' && behind == '>') {
                return UNLIKE;
            }
            return sign == '>' && behind == '=' ? AT_LEAST : NO_TOKEN;
        }

        private static int signKind(int sign) {
            switch (sign) {
                case ';':
                    return SEMICOLON;
                case '(':
                    return LEFT;
                case ')':
                    return RIGHT;
                case '+':
                    return PLUS;
                case '-':
                    return MINUS;
                case '*':
                    return TIMES;
                case '/':
                    return BY;
                case '<':
                    return BELOW;
                case '=':
                    return ALIKE;
                case '>':
                    return ABOVE;
                default:
                    return NO_TOKEN;
            }
        }

        private static boolean isLetter(int sign) {
            return sign >= 'a' && sign <= 'z';
        }

        private static boolean isDigit(int sign) {
            return sign >= '0' && sign <= '9';
        }
    }

    /** Reads a text into a story; behind the first fault every step does nothing more. */
    private static final class Reader {
        private final Tokens tokens = new Tokens();
        private Story story = new Story();
        private int at;
        int fault;
        int place = NONE;

        /** The story that was read, for one whose rows the next text can use again. */
        Story exchange(Story old) {
            Story read = story;
            story = old;
            return read;
        }

        boolean read(int[] bytes, int n) {
            tokens.scan(bytes, n);
            story.empty();
            at = 0;
            fault = 0;
            place = NONE;
            for (int i = 0; i < MOST_BYTES && fault == 0 && kind() != END; i++) {
                readLine();
                take(SEMICOLON);
                story.lines++;
            }
            return fault == 0;
        }

        private int kind() {
            return at >= 0 && at < Tokens.MOST_TOKENS ? tokens.kinds[at] : END;
        }

        private int value() {
            return at >= 0 && at < Tokens.MOST_TOKENS ? tokens.values[at] : 0;
        }

        private void step() {
            if (at + 1 < tokens.count) {
                at++;
            }
        }

        private void refuse(int why) {
            if (fault == 0 && at >= 0 && at < Tokens.MOST_TOKENS) {
                fault = why;
                place = tokens.places[at];
            }
        }

        private void take(int kind) {
            if (fault != 0) {
                return;
            }
            if (kind() == kind) {
                step();
            } else {
                refuse(NOT_A_TOKEN);
            }
        }

        private void readLine() {
            switch (kind()) {
                case MAN:
                    readMan();
                    break;
                case TUSK:
                    readTusk();
                    break;
                case DEBT:
                    readDebt();
                    break;
                case LEAN:
                    readLeaning();
                    break;
                case DIES:
                    readDeath();
                    break;
                case RATE:
                    readRate();
                    break;
                case SEED:
                    readSeed();
                    break;
                case LAW:
                    readLaw();
                    break;
                default:
                    refuse(NOT_A_TOKEN);
                    break;
            }
        }

        /** The word of a line, which is at fault itself if there is no room for what it tells. */
        private void takeLineWord(boolean hasRoom, int why) {
            if (hasRoom) {
                step();
            } else {
                refuse(why);
            }
        }

        private void readMan() {
            takeLineWord(story.men < MOST_MEN, TOO_MUCH);
            int name = takeNewName(story.manNames, story.men);
            int purse = takeNumber(0, 999);
            if (fault == 0) {
                story.addMan(name, purse);
            }
        }

        private void readTusk() {
            takeLineWord(story.tusks < MOST_TUSKS, TOO_MUCH);
            int name = takeNewName(story.tuskNames, story.tusks);
            int age = takeNumber(0, MOST_AGE);
            int buns = takeNumber(0, 9);
            if (fault == 0) {
                story.addTusk(name, age, buns);
            }
        }

        private void readDebt() {
            takeLineWord(story.start.debts < MOST_DEBTS, TOO_MUCH);
            int lender = takeMan(NONE);
            int debtor = takeMan(lender);
            int sum = takeNumber(1, MOST_SUM);
            int tusk = takeTusk(NONE);
            int day = takeNumber(0, MOST_DAYS);
            if (fault == 0) {
                story.start.addDebt(lender, debtor, sum, tusk, day);
            }
        }

        private void readLeaning() {
            takeLineWord(story.leans < MOST_LEANS, TOO_MUCH);
            int one = takeTusk(NONE);
            int other = takeTusk(one);
            int day = takeNumber(0, MOST_DAYS);
            if (fault == 0) {
                story.addLeaning(one, other, day);
            }
        }

        private void readDeath() {
            step();
            int tusk = toldIndex(story.tuskNames, story.tusks);
            boolean isTold = tusk >= 0 && tusk < MOST_TUSKS;
            if (isTold && story.deathDays[tusk] != NONE) {
                refuse(TOLD_ALREADY);
            }
            step();
            int day = takeNumber(0, MOST_DAYS);
            if (fault == 0 && isTold) {
                story.deathDays[tusk] = day;
            }
        }

        private void readRate() {
            takeLineWord(!story.hasRate, TOLD_ALREADY);
            story.rate = takeNumber(0, 100);
            story.hasRate = true;
        }

        private void readSeed() {
            takeLineWord(!story.hasSeed, TOLD_ALREADY);
            story.start.number = takeNumber(0, 99999);
            story.hasSeed = true;
        }

        private void readLaw() {
            step();
            Law law = story.passLaw;
            if (kind() == PAY) {
                law = story.payLaw;
            } else if (kind() == DIE) {
                law = story.dieLaw;
            } else if (kind() != PASS) {
                refuse(NOT_A_TOKEN);
            }
            if (law.length > 0) {
                refuse(TOLD_ALREADY);
            }
            step();
            readLevel(OR_LEVEL, 0, law);
        }

        private int takeNewName(int[] names, int count) {
            if (fault != 0) {
                return NONE;
            }
            if (kind() != WORD) {
                refuse(NOT_A_TOKEN);
            } else if (indexOf(value(), names, count) != NONE) {
                refuse(TOLD_ALREADY);
            }
            int name = value();
            step();
            return name;
        }

        private int takeMan(int notThis) {
            return takeToldName(story.manNames, story.men, notThis);
        }

        private int takeTusk(int notThis) {
            return takeToldName(story.tuskNames, story.tusks, notThis);
        }

        private int takeToldName(int[] names, int count, int notThis) {
            int index = toldIndex(names, count);
            if (index != NONE && index == notThis) {
                refuse(TO_ONESELF);
            }
            step();
            return index;
        }

        private int toldIndex(int[] names, int count) {
            if (fault != 0) {
                return NONE;
            }
            if (kind() != WORD) {
                refuse(NOT_A_TOKEN);
                return NONE;
            }
            int index = indexOf(value(), names, count);
            if (index == NONE) {
                refuse(NOT_TOLD);
            }
            return index;
        }

        private int takeNumber(int least, int most) {
            if (fault != 0) {
                return 0;
            }
            int number = value();
            if (kind() != NUMBER) {
                refuse(NOT_A_TOKEN);
            } else if (number < least || number > most) {
                refuse(TOO_MUCH);
            }
            step();
            return number;
        }

        private void takeKnot() {
            if (story.knots >= MOST_KNOTS) {
                refuse(TOO_MUCH);
            }
            story.knots++;
            step();
        }

        /** One level of E reads what it joins by the level behind it, down to the parts. */
        private void readLevel(int level, int brackets, Law law) {
            if (level >= PART_LEVEL) {
                readPart(brackets, law);
                return;
            }
            int nots = level == NOT_LEVEL ? takeNots() : 0;
            readLevel(level + 1, brackets, law);
            int most = level == COMPARISON_LEVEL ? 1 : MOST_KNOTS;
            for (int i = 0; i < most && fault == 0 && levelOf(kind()) == level; i++) {
                int sign = kind();
                takeKnot();
                readLevel(level + 1, brackets, law);
                law.add(sign);
            }
            for (int i = 0; i < nots; i++) {
                law.add(NOT);
            }
        }

        private int takeNots() {
            int nots = 0;
            while (nots <= MOST_KNOTS && fault == 0 && kind() == NOT) {
                takeKnot();
                nots++;
            }
            return nots;
        }

        private static int levelOf(int kind) {
            switch (kind) {
                case OR:
                    return OR_LEVEL;
                case AND:
                    return AND_LEVEL;
                case BELOW:
                case AT_MOST:
                case ALIKE:
                case UNLIKE:
                case AT_LEAST:
                case ABOVE:
                    return COMPARISON_LEVEL;
                case PLUS:
                case MINUS:
                    return SUM_LEVEL;
                case TIMES:
                case BY:
                    return PRODUCT_LEVEL;
                default:
                    return NONE;
            }
        }

        private void readPart(int brackets, Law law) {
            if (fault != 0) {
                return;
            }
            int kind = kind();
            boolean isTooMuch = kind == LEFT ? brackets >= MOST_BRACKETS : kind == NUMBER && value() > MOST_NUMBER;
            if (isTooMuch) {
                refuse(TOO_MUCH);
            } else if (kind == LEFT) {
                step();
                readLevel(OR_LEVEL, brackets + 1, law);
                take(RIGHT);
            } else if (kind == NUMBER) {
                law.add(NUMBER_CODE + value());
                takeKnot();
            } else if (kind >= FIRST_NAME && kind <= LAST_NAME) {
                law.add(kind);
                takeKnot();
            } else {
                refuse(NOT_A_TOKEN);
            }
        }
    }

    /** How days go by in a world, by numbers or as it goes or tried otherwise. */
    private static final class Course {
        private final long[] names = new long[NAMES];
        private Story story;
        private World world;
        private int way;
        /** Elephants (bits) that never know anything. */
        private int deaf;

        Course(Story story, World world) {
            this.story = story;
            this.world = world;
        }

        void follow(Story newStory, World newWorld, int newWay, int newDeaf) {
            story = newStory;
            world = newWorld;
            way = newWay;
            deaf = newDeaf;
        }

        void run(int days) {
            for (int i = 0; i < days; i++) {
                oneDay();
            }
        }

        void oneDay() {
            lendDue();
            if (way != NOBODY_LEANS) {
                leanAll();
            }
            if (way != NOBODY_DIES) {
                dieAsTold();
            }
            if (way != NOBODY_PAYS) {
                payAll();
            }
            if (world.day % 10 == 9) {
                addInterest();
                growOlder();
            }
            forgive();
            world.day++;
        }

        private void lendDue() {
            for (int debt = 0; debt < world.debts; debt++) {
                if (world.kind[debt] == TO_COME && world.due[debt] == world.day) {
                    int buns = story.bunsOf(world.witness[debt]);
                    int needed = world.sum[debt] + buns;
                    if (world.isAlive(world.witness[debt]) && world.purseOf(world.lender[debt]) >= needed) {
                        world.open(debt, buns, deaf);
                    } else {
                        world.end(debt, REFUSED);
                    }
                }
            }
        }

        private void leanAll() {
            for (int i = 0; i < story.leans && i < MOST_LEANS; i++) {
                int one = story.leaning[i];
                int other = story.leanedOn[i];
                if (story.leanDays[i] == world.day && world.isAlive(one) && world.isAlive(other)) {
                    passOn(one, other);
                    passRumours(one, other);
                }
            }
        }

        int passOn(int one, int other) {
            int passed = 0;
            int bit = 1 << other & ~deaf;
            for (int debt = 0; debt < world.debts; debt++) {
                int knowers = world.knowers[debt];
                boolean isNews = (knowers >> one & 1) != 0 && (knowers & bit) == 0 && bit != 0;
                // An ERROR isn't 0, so by it and without a law the debt is passed on, as is due.
                if (isNews && passValue(debt, one) != 0) {
                    world.knowers[debt] |= bit;
                    passed++;
                }
            }
            return passed;
        }

        private void passRumours(int one, int other) {
            for (int i = MOST_DEBTS; i < world.knowers.length; i++) {
                if ((world.knowers[i] >> one & 1) != 0) {
                    world.knowers[i] |= 1 << other;
                }
            }
        }

        private void dieAsTold() {
            for (int tusk = 0; tusk < story.tusks && tusk < MOST_TUSKS; tusk++) {
                if (story.deathDays[tusk] == world.day) {
                    world.bury(tusk);
                }
            }
        }

        private void payAll() {
            for (int debt = 0; debt < world.debts; debt++) {
                if (world.kind[debt] == OPEN && world.isInPurse(debt) && isDue(debt)) {
                    world.settle(debt);
                }
            }
        }

        private boolean isDue(int debt) {
            long value = payValue(debt);
            return value == ERROR ? world.daysOpen(debt) >= 5 : value != 0;
        }

        private void addInterest() {
            for (int debt = 0; debt < world.debts; debt++) {
                if (world.kind[debt] == OPEN) {
                    int owed = world.owed[debt];
                    world.owed[debt] = Math.min(MOST_OWED, owed + owed * story.rate / 100);
                }
            }
        }

        private void growOlder() {
            for (int tusk = 0; tusk < story.tusks && tusk < MOST_TUSKS; tusk++) {
                if (world.isAlive(tusk)) {
                    world.age[tusk] = Math.min(MOST_AGE, world.age[tusk] + 1);
                    if (way != NOBODY_DIES && isFatal(oddsOf(tusk, world.age[tusk]))) {
                        world.bury(tusk);
                    }
                }
            }
        }

        private boolean isFatal(int odds) {
            if (way == DRAWN && odds > 0 && odds < 100) {
                return world.drawNumber() % 100 < odds;
            }
            return way == DRAWN ? odds == 100 : odds >= 50;
        }

        private void forgive() {
            for (int debt = 0; debt < world.debts; debt++) {
                if (world.kind[debt] == OPEN && world.knowers[debt] == 0) {
                    world.end(debt, FORGIVEN);
                }
            }
        }

        /** Of a hundred, with an age that need not be the elephant's own. */
        int oddsOf(int tusk, int age) {
            long value = dieValue(tusk, age);
            if (value == ERROR) {
                return Math.max(0, age - 60);
            }
            return (int) Math.max(0, Math.min(100, value));
        }

        long passValue(int debt, int tusk) {
            int age = tusk >= 0 && tusk < MOST_TUSKS ? world.age[tusk] : 0;
            nameDebt(debt, age, Integer.bitCount(world.debtsKnownBy(tusk)));
            return story.passLaw.value(names);
        }

        long payValue(int debt) {
            int oldest = world.oldestOf(debt);
            nameDebt(debt, oldest >= 0 && oldest < MOST_TUSKS ? world.age[oldest] : 0, 0);
            return story.payLaw.value(names);
        }

        long dieValue(int tusk, int age) {
            int knows = Integer.bitCount(world.debtsKnownBy(tusk));
            names[0] = 0;
            names[1] = age;
            names[2] = 0;
            names[3] = knows;
            names[4] = 0;
            names[5] = knows;
            names[6] = world.day;
            return story.dieLaw.value(names);
        }

        private void nameDebt(int debt, int age, int knows) {
            names[0] = world.owed[debt];
            names[1] = age;
            names[2] = world.purseOf(world.debtor[debt]);
            names[3] = Integer.bitCount(world.knowers[debt]);
            names[4] = world.daysOpen(debt);
            names[5] = knows;
            names[6] = world.day;
        }
    }

    /** The worlds ahead of the latest calls that can be undone, the latest last. */
    private static final class Past {
        private final World[] worlds = new World[MOST_UNDONE];
        int count;

        Past() {
            for (int i = 0; i < MOST_UNDONE; i++) {
                worlds[i] = new World();
            }
        }

        void store(World world) {
            if (count >= MOST_UNDONE) {
                dropFirst();
            }
            if (count >= 0 && count < MOST_UNDONE) {
                worlds[count].copyFrom(world);
                count++;
            }
        }

        private void dropFirst() {
            World first = worlds[0];
            for (int i = 1; i < MOST_UNDONE; i++) {
                worlds[i - 1] = worlds[i];
            }
            worlds[MOST_UNDONE - 1] = first;
            count = MOST_UNDONE - 1;
        }

        void restore(World world) {
            if (count > 0 && count <= MOST_UNDONE) {
                count--;
                world.copyFrom(worlds[count]);
            }
        }
    }

    /** What was seen, and what strikes it. */
    private static final class Seen {
        private final int[] days = new int[MOST_SEEN];
        private final int[] debts = new int[MOST_SEEN];
        private final boolean[] paid = new boolean[MOST_SEEN];
        /** The one that it strikes; NONE: it is no striking one. */
        private final int[] strikes = new int[MOST_SEEN];
        private final boolean[] struck = new boolean[MOST_SEEN];
        int count;
        /** NONE: by all. */
        int by = NONE;

        void forget() {
            count = 0;
            by = NONE;
        }

        int add(int day, int debt, boolean isPaid, int struckOne) {
            if (count >= MOST_SEEN) {
                return NONE;
            }
            days[count] = day;
            debts[count] = debt;
            paid[count] = isPaid;
            strikes[count] = struckOne;
            count++;
            return count - 1;
        }

        int ruling() {
            return by == NONE ? count : by;
        }

        void strikeOut() {
            int ruling = Math.min(ruling(), MOST_SEEN);
            for (int i = 0; i < ruling; i++) {
                struck[i] = false;
            }
            for (int i = ruling - 1; i >= 0; i--) {
                int target = strikes[i];
                if (!struck[i] && target >= 0 && target < i) {
                    struck[target] = true;
                }
            }
        }

        boolean agrees(int day, World world) {
            int ruling = Math.min(ruling(), MOST_SEEN);
            for (int i = 0; i < ruling; i++) {
                if (!struck[i] && strikes[i] == NONE && days[i] == day && isPaid(debts[i], world) != paid[i]) {
                    return false;
                }
            }
            return true;
        }

        private static boolean isPaid(int debt, World world) {
            return debt >= 0 && debt < world.debts && world.kind[debt] == PAID;
        }
    }

    /** Questions about a world in which no day goes by, with the rows that their answers need. */
    private static final class Reckoner {
        private final int[] nets = new int[1 << MOST_MEN];
        private final int[] groups = new int[1 << MOST_MEN];
        private final int[] reached = new int[MOST_MEN];
        private final int[] opened = new int[ORDERED];
        private final int[] row = new int[ORDERED];
        private final World purses = new World();
        final int[] order = new int[ORDERED];
        int opens;
        int mostPaid;
        final int[] restsFound = new int[4];
        final int[] lastings = new int[MOST_TUSKS];

        /**
         * A group of men whose nets are 0 in sum needs one paying less than it has men, and no fewer if no smaller
         * group is inside; so the fewest payings go with the most groups.
         */
        int fewestPayings(World world, int men) {
            int all = 0;
            for (int man = 0; man < men && man < MOST_MEN; man++) {
                int net = world.netOf(man);
                nets[1 << man] = net;
                all |= net == 0 ? 0 : 1 << man;
            }
            for (int bits = 1; bits <= all; bits++) {
                countGroups(bits);
            }
            return all == 0 ? 0 : Integer.bitCount(all) - groups[all];
        }

        private void countGroups(int bits) {
            int lowest = bits & -bits;
            if (bits != lowest) {
                nets[bits] = nets[lowest] + nets[bits ^ lowest];
            }
            int most = 0;
            for (int man = 0; man < MOST_MEN; man++) {
                if ((bits >> man & 1) != 0) {
                    most = Math.max(most, groups[bits ^ 1 << man]);
                }
            }
            // Men taken one by one meet the end of a group each time that those taken are 0 in sum.
            groups[bits] = most + (nets[bits] == 0 ? 1 : 0);
        }

        int ringOf(World world, int men) {
            int count = Math.min(men, MOST_MEN);
            for (int man = 0; man < count; man++) {
                reached[man] = lendersOf(man, world);
            }
            for (int middle = 0; middle < count; middle++) {
                for (int man = 0; man < count; man++) {
                    if ((reached[man] >> middle & 1) != 0) {
                        reached[man] |= reached[middle];
                    }
                }
            }
            int ring = 0;
            for (int man = 0; man < count; man++) {
                ring |= reached[man] & 1 << man;
            }
            return ring;
        }

        private static int lendersOf(int man, World world) {
            int bits = 0;
            for (int debt = 0; debt < world.debts; debt++) {
                if (world.kind[debt] == OPEN && world.debtor[debt] == man) {
                    bits |= 1 << world.lender[debt];
                }
            }
            return bits;
        }

        void findOrder(World world) {
            opens = 0;
            for (int debt = 0; debt < world.debts && opens < ORDERED; debt++) {
                if (world.kind[debt] == OPEN) {
                    opened[opens] = debt;
                    opens++;
                }
            }
            mostPaid = NONE;
            // Two bits for each place of a row: rows come by their debts, the first one highest.
            for (int code = 0; code < 1 << 2 * opens; code++) {
                if (setRow(code)) {
                    tryRow(world);
                }
            }
        }

        private boolean setRow(int code) {
            int used = 0;
            for (int i = 0; i < opens && i < ORDERED; i++) {
                int index = code >> 2 * (opens - 1 - i) & 3;
                if (index >= opens || (used >> index & 1) != 0) {
                    return false;
                }
                used |= 1 << index;
                row[i] = opened[index];
            }
            return true;
        }

        private void tryRow(World world) {
            purses.copyFrom(world);
            int paid = 0;
            for (int i = 0; i < opens && i < ORDERED; i++) {
                int debt = row[i];
                if (debt >= 0 && debt < purses.debts && purses.isInPurse(debt)) {
                    paid += purses.owed[debt];
                    purses.settle(debt);
                }
            }
            if (paid > mostPaid) {
                mostPaid = paid;
                System.arraycopy(row, 0, order, 0, ORDERED);
            }
        }

        int findRests(World world, int one, int other) {
            int count = 0;
            for (int code = 0; code < restsFound.length; code++) {
                int a = code >> 1;
                int b = code & 1;
                boolean isBest = share(world, one, other, a, b) >= share(world, one, other, 1 - a, b);
                if (isBest && share(world, other, one, b, a) >= share(world, other, one, 1 - b, a)) {
                    restsFound[count] = 10 * a + b;
                    count++;
                }
            }
            return count;
        }

        /** What the one has who asks (0) or waits (1) beside the other one's choice. */
        private static int share(World world, int mine, int others, int choice, int otherChoice) {
            int purse = world.purseOf(world.debtor[mine]);
            int owed = world.owed[mine];
            if (choice == otherChoice) {
                return Math.min(owed, purse / 2) - choice;
            }
            if (choice == 0) {
                return Math.min(owed, purse);
            }
            int left = purse - Math.min(world.owed[others], purse);
            return Math.min(owed, left) - 1;
        }
    }
}
