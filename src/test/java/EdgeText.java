/** Edges of a text: the terms of paragraph 1 and promises 1 to 5, sentence by sentence. */
final class EdgeText {
    private static final String[] LANGUAGE = {"man", "tusk", "debt", "lean", "dies", "rate", "seed", "law", "pass", "pay",
        "die", "not", "and", "or", "sum", "age", "purse", "known", "days", "knows", "day"};
    private static final String TWO = "man a 9;man b 9;tusk t 1 1;tusk u 1 1;";
    private static final int BLANKS = 0x20202020;

    private final Probe probe;

    EdgeText(Probe probe) {
        this.probe = probe;
    }

    void run() {
        lines();
        lineForms();
        words();
        blanks();
        oneComparison();
        partsOfE();
        namesOfE();
        signsOfTwo();
        men();
        tusks();
        debts();
        leanings();
        deaths();
        rate();
        seed();
        numbering();
        firstFault();
        faultOne();
        faultTwo();
        faultThree();
        faultFour();
        faultFive();
        newObject();
        feedHighestFirst();
        feedFull();
        textOfTape();
        textAnew();
        textForgets();
        textWithFault();
        textRefused();
        faultOfLatest();
        faultOfAnotherWhat();
        namedByLetters();
        namedNone();
    }

    private void lines() {
        probe.sentence("Terms", "A TEXT: { LINE ';' }.");
        probe.right("", 0);
        probe.right(" ", 0);
        probe.right("rate 0;", 1);
        probe.right("rate 0;seed 0;", 2);
        probe.wrong("^;", 1);
        probe.wrong("rate 0;^;", 1);
        probe.wrong("rate 0 ^seed 0;", 1);
        probe.wrong("rate 0^", 1);
    }

    /** Each form cut behind each of its tokens must have more; and no form has one token more. */
    private void lineForms() {
        probe.sentence("Terms", "LINE: man W N | tusk W N N | debt W W N W N | lean W W N | dies W N | rate N | seed N "
            + "| law RULE E. RULE: pass | pay | die.");
        String[] forms = {"man c 1", "tusk v 1 1", "debt a b 1 t 1", "lean t u 1", "dies t 1", "rate 1", "seed 1",
            "law pass 1", "law pay 1", "law die 1"};
        for (String form : forms) {
            String[] tokens = form.split(" ");
            String cut = TWO;
            for (String token : tokens) {
                cut = cut + token;
                probe.wrong(cut + "^", 1);
                cut = cut + " ";
                probe.wrong(cut + "^", 1);
            }
            probe.right(cut + ";", 5);
            probe.wrong(cut + "^1;", 1);
            probe.wrong(cut + "^c;", 1);
        }
        for (String none : new String[] {"1", ";", "man", "sum", "(", "#"}) {
            probe.wrong(TWO + "man ^" + none + " 1;", 1);
            probe.wrong(TWO + "tusk ^" + none + " 1 1;", 1);
            probe.wrong(TWO + "debt ^" + none + " b 1 t 1;", 1);
            probe.wrong(TWO + "debt a ^" + none + " 1 t 1;", 1);
            probe.wrong(TWO + "debt a b 1 ^" + none + " 1;", 1);
            probe.wrong(TWO + "lean ^" + none + " u 1;", 1);
            probe.wrong(TWO + "lean t ^" + none + " 1;", 1);
            probe.wrong(TWO + "dies ^" + none + " 1;", 1);
        }
        for (String none : new String[] {"a", "t", ";", "man", "sum", "(", "#"}) {
            probe.wrong(TWO + "man c ^" + none + ";", 1);
            probe.wrong(TWO + "tusk v ^" + none + " 1;", 1);
            probe.wrong(TWO + "tusk v 1 ^" + none + ";", 1);
            probe.wrong(TWO + "debt a b ^" + none + " t 1;", 1);
            probe.wrong(TWO + "debt a b 1 t ^" + none + ";", 1);
            probe.wrong(TWO + "lean t u ^" + none + ";", 1);
            probe.wrong(TWO + "dies t ^" + none + ";", 1);
            probe.wrong(TWO + "rate ^" + none + ";", 1);
            probe.wrong(TWO + "seed ^" + none + ";", 1);
        }
        for (String word : LANGUAGE) {
            if (!word.equals("pass") && !word.equals("pay") && !word.equals("die")) {
                probe.wrong("law ^" + word + " 1;", 1);
                probe.wrong("law pass 1;law pay 1;law die 1;law ^" + word + " 1;", 1);
            }
        }
        probe.wrong("law ^1 1;", 1);
        probe.wrong("law ^paying 1;", 1);
    }

    private void words() {
        probe.sentence("Terms", "Words: small letters in a row; W: one of 1 .. 6 letters, none of those of the language; "
            + "N: digits.");
        probe.right("man a 1;man abcdef 1;man z 1;man zzzzzz 1;", 4);
        probe.wrong("man ^abcdefg 1;", 1);
        probe.wrong("man ^1;", 1);
        for (String word : LANGUAGE) {
            probe.wrong("man ^" + word + " 1;", 1);
            probe.wrong("tusk ^" + word + " 1 1;", 1);
            probe.right("man " + word.charAt(0) + " 1;", 1);
        }
        probe.right("man manx 1;man xman 1;man dayss 1;", 3);
        probe.wrong("man ^A 1;", 1);
        probe.wrong("man a^A 1;", 1);
        // The signs beside a, z, 0 and 9 are neither letters nor digits.
        probe.wrong("man ^` 1;", 1);
        probe.wrong("man ^{ 1;", 1);
        probe.wrong("man a ^/;", 1);
        probe.wrong("man a ^:;", 1);
        probe.right("man a 0;man b 9;man c 0000000000000000000000999;", 3);
        probe.right("man a1;", 1);
        probe.right("man a1 ;", 1);
    }

    private void blanks() {
        probe.sentence("Terms", "Blanks 10, 32.");
        probe.right("\n man\n\n a \n1\n;\n", 1);
        for (int sign : new int[] {0, 1, 8, 9, 11, 12, 13, 31, 33, 127, 128, 160, 255}) {
            probe.wrong("man^" + (char) sign + "a 1;", 1);
        }
    }

    private void oneComparison() {
        probe.sentence("Terms", "E: A { or A }. A: B { and B }. B: not B | C. "
            + "C: S [ ( < | <= | = | <> | >= | > ) S ].");
        for (String sign : new String[] {"<", "<=", "=", "<>", ">=", ">"}) {
            probe.right("law pay 1" + sign + "2;", 1);
            probe.wrong("law pay 1" + sign + "2^" + sign + "3;", 1);
            probe.wrong("law pay ^" + sign + "2;", 1);
            probe.wrong("law pay 1" + sign + "^;", 1);
            probe.right("law pay (1" + sign + "2)" + sign + "3;", 1);
        }
        probe.right("law pay not not not 1 and not 0 or not 1;", 1);
        probe.wrong("law pay not ^;", 1);
        probe.wrong("law pay 1 ^not 1;", 1);
        probe.wrong("law pay 1=^not 1;", 1);
        probe.wrong("law pay ^and 1;", 1);
        probe.wrong("law pay 1 or ^or 1;", 1);
        probe.wrong("law pay 1 and ^;", 1);
        // What is joined first: signs of T, then of S, comparisons, not, and, or; alike ones from the left.
        dueLaw("1 or 0 and 0", 1);
        dueLaw("0 and 0 or 1", 1);
        dueLaw("not 0 and 0", 0);
        dueLaw("not 1 or 1", 1);
        dueLaw("not 1=2", 1);
        dueLaw("not 0<0", 1);
        dueLaw("2 and 1<1", 0);
        dueLaw("1<1+1", 1);
        dueLaw("0=1 or 1", 1);
    }

    private void partsOfE() {
        probe.sentence("Terms", "S: T { ( + | - ) T }. T: P { ( * | / ) P }. P: N | NAME | '(' E ')'; N of E 0 .. 9999.");
        probe.right("law pay 0;law die 9999;law pass 00009999;", 3);
        probe.wrong("law pay ^10000;", 2);
        probe.wrong("law pay 1+^10000;", 2);
        probe.wrong("law pay ^99999999999999999999;", 2);
        probe.wrong("law pay ^-1;", 1);
        probe.wrong("law pay ^+1;", 1);
        probe.wrong("law pay 1*^-1;", 1);
        probe.wrong("law pay 1+^;", 1);
        probe.wrong("law pay 1/^)", 1);
        probe.wrong("law pay (^);", 1);
        probe.wrong("law pay (1^;", 1);
        probe.wrong("law pay 1^);", 1);
        probe.wrong("law pay ^;", 1);
        dueLaw("9999", 9999);
        dueLaw("1+2*3", 7);
        dueLaw("2*3+1", 7);
        dueLaw("(1+2)*3", 9);
        dueLaw("9-3-2", 4);
        dueLaw("9-(3-2)", 8);
        dueLaw("8/4/2", 1);
        dueLaw("8/4*2", 4);
        dueLaw("8-6/2", 5);
    }

    private void namesOfE() {
        probe.sentence("Terms", "NAME: sum age purse known days knows day.");
        for (String word : LANGUAGE) {
            int place = "sum age purse known days knows day".indexOf(word);
            if (place >= 0) {
                probe.right("law pay " + word + ";", 1);
            } else if (!word.equals("not")) {
                probe.wrong("law pay ^" + word + " 1;", 1);
            }
        }
        probe.wrong("man a 1;law pay ^a;", 1);
        probe.wrong("law pay ^sums;", 1);
    }

    private void signsOfTwo() {
        probe.sentence("Terms", "A = (or > behind <) right behind < or > belongs to it.");
        dueLaw("2<=2", 1);
        dueLaw("2<>2", 0);
        dueLaw("2>=2", 1);
        probe.wrong("law pay 2< ^=2;", 1);
        probe.wrong("law pay 2> ^=2;", 1);
        probe.wrong("law pay 2< ^>2;", 1);
        probe.wrong("law pay 2>^>2;", 1);
        probe.wrong("law pay 2>^<2;", 1);
        probe.wrong("law pay 2=^<2;", 1);
        probe.wrong("law pay 2=^>2;", 1);
        probe.wrong("law pay 2=^=2;", 1);
        probe.wrong("law pay 2<>^=2;", 1);
        probe.wrong("law pay 2<=^=2;", 1);
        // The pair is one sign at the very end of a text, too, and of the tape.
        for (String pair : new String[] {"<=", "<>", ">="}) {
            probe.wrong("law pay 2" + pair + "^", 1);
            probe.wrong(" ".repeat(689) + "law pay 2" + pair + "^", 1);
        }
        // What stands on the tape behind the text doesn't belong to its last sign.
        TuskLedger x = new TuskLedger();
        Probe.feed(x, "law pay 2<=2;");
        probe.due("text(10)", x.text(10), -1);
        probe.due("fault(1), the length", x.fault(1), 10);
    }

    private void dueLaw(String e, long want) {
        probe.due(e, probe.told("tusk t 1 0;law die " + e + ";").law(2, 0, 0), want);
    }

    private void men() {
        probe.sentence("Terms", "MEN, at most 6: PURSE 0 .. 999.");
        TuskLedger x = probe.told("man a 0;man b 999;");
        probe.due("man(0, 0)", x.man(0, 0), 0);
        probe.due("man(1, 0)", x.man(1, 0), 999);
        probe.wrong("man a ^1000;", 2);
        probe.wrong("man a ^4294967295;", 2);
        probe.wrong("man a ^18446744073709551616;", 2);
        String six = "man a 1;man b 1;man c 1;man d 1;man e 1;man f 1;";
        probe.right(six, 6);
        probe.due("count(0)", probe.told(six).count(0), 6);
        probe.wrong(six + "^man g 1;", 2);
    }

    private void tusks() {
        probe.sentence("Terms", "ELEPHANTS (tusk), at most 6: AGE 0 .. 99, BUNS 0 .. 9.");
        TuskLedger x = probe.told("tusk a 0 9;tusk b 99 0;");
        probe.due("tusk(0, 0)", x.tusk(0, 0), 0);
        probe.due("tusk(0, 1)", x.tusk(0, 1), 9);
        probe.due("tusk(1, 0)", x.tusk(1, 0), 99);
        probe.due("tusk(1, 1)", x.tusk(1, 1), 0);
        probe.wrong("tusk a ^100 0;", 2);
        probe.wrong("tusk a 0 ^10;", 2);
        String six = "tusk a 1 1;tusk b 1 1;tusk c 1 1;tusk d 1 1;tusk e 1 1;tusk f 1 1;";
        probe.right(six, 6);
        probe.due("count(1)", probe.told(six).count(1), 6);
        probe.wrong(six + "^tusk g 1 1;", 2);
    }

    private void debts() {
        probe.sentence("Terms", "DEBTS, at most 8: a LENDER, a DEBTOR (not the same), a SUM 1 .. 99, an ELEPHANT, "
            + "a DAY 0 .. 99.");
        TuskLedger x = probe.told(TWO + "debt a b 1 t 0;debt b a 99 u 99;");
        probe.due("debt(0, 2)", x.debt(0, 2), 1);
        probe.due("debt(0, 4)", x.debt(0, 4), 0);
        probe.due("debt(1, 2)", x.debt(1, 2), 99);
        probe.due("debt(1, 4)", x.debt(1, 4), 99);
        probe.wrong(TWO + "debt a b ^0 t 0;", 2);
        probe.wrong(TWO + "debt a b ^100 t 0;", 2);
        probe.wrong(TWO + "debt a b 1 t ^100;", 2);
        probe.wrong(TWO + "debt a ^a 1 t 0;", 5);
        String eight = TWO + "debt a b 1 t 0;".repeat(8);
        probe.right(eight, 12);
        probe.due("count(2)", probe.told(eight).count(2), 8);
        probe.wrong(eight + "^debt a b 1 t 0;", 2);
    }

    private void leanings() {
        probe.sentence("Terms", "lean, at most 10: one ELEPHANT on another one on a DAY 0 .. 99.");
        probe.right(TWO + "lean t u 0;lean u t 99;", 6);
        probe.wrong(TWO + "lean t u ^100;", 2);
        probe.wrong(TWO + "lean t ^t 1;", 5);
        String ten = TWO + "lean t u 1;".repeat(10);
        probe.right(ten, 14);
        probe.wrong(ten + "^lean t u 1;", 2);
        // The tenth leaning passes on as the first one does, on its last day, too.
        TuskLedger x = probe.told(TWO + "lean u t 1;".repeat(9) + "lean t u 99;debt a b 1 t 98;law pay 0;");
        x.go(99);
        probe.due("debt(0, 7) ahead of day 99", x.debt(0, 7), 1);
        x.go(1);
        probe.due("debt(0, 7) behind day 99", x.debt(0, 7), 3);
    }

    private void deaths() {
        probe.sentence("Terms", "dies: an ELEPHANT on a DAY 0 .. 99 (each once).");
        TuskLedger x = probe.told(TWO + "dies t 0;dies u 99;law die 0;");
        probe.due("count(9)", x.count(9), 2);
        x.go(1);
        probe.due("count(9) behind day 0", x.count(9), 1);
        x.go(98);
        probe.due("count(9) behind day 98", x.count(9), 1);
        x.go(1);
        probe.due("count(9) behind day 99", x.count(9), 0);
        probe.wrong(TWO + "dies t ^100;", 2);
        probe.wrong(TWO + "dies t 0;dies ^t 0;", 3);
    }

    private static int owedBehindTenDays(TuskLedger x) {
        x.go(10);
        return x.debt(0, 6);
    }

    private void rate() {
        probe.sentence("Terms", "rate: of a hundred 0 .. 100 (0).");
        String debt = "man a 99;man b 0;tusk t 1 0;debt a b 50 t 0;law pay 0;";
        probe.due("rate 0", owedBehindTenDays(probe.told(debt + "rate 0;")), 50);
        probe.due("rate 100", owedBehindTenDays(probe.told(debt + "rate 100;")), 100);
        probe.due("no rate", owedBehindTenDays(probe.told(debt)), 50);
        probe.wrong("rate ^101;", 2);
        // What an earlier text told doesn't last.
        TuskLedger x = probe.told(debt + "rate 100;");
        Probe.tell(x, debt);
        probe.due("no rate any more", owedBehindTenDays(x), 50);
    }

    private static int aliveBehindTenDays(TuskLedger x) {
        x.go(10);
        return 8 * x.tusk(0, 2) + 4 * x.tusk(1, 2) + 2 * x.tusk(2, 2) + x.tusk(3, 2);
    }

    private void seed() {
        probe.sentence("Terms", "seed: 0 .. 99999 (0).");
        String herd = "tusk s 1 0;tusk t 1 0;tusk u 1 0;tusk v 1 0;law die 50;";
        probe.due("seed 0", aliveBehindTenDays(probe.told(herd + "seed 0;")), aliveByNumbers(0));
        probe.due("no seed", aliveBehindTenDays(probe.told(herd)), aliveByNumbers(0));
        probe.due("seed 99999", aliveBehindTenDays(probe.told(herd + "seed 99999;")), aliveByNumbers(99999));
        probe.wrong("seed ^100000;", 2);
        TuskLedger x = probe.told(herd + "seed 99999;");
        Probe.tell(x, herd);
        probe.due("no seed any more", aliveBehindTenDays(x), aliveByNumbers(0));
    }

    /** Which of four live at odds of 50 each, by the first four numbers behind a seed. */
    private static int aliveByNumbers(long seed) {
        long number = seed;
        int alive = 0;
        for (int i = 0; i < 4; i++) {
            number = (number * 1103515245L + 12345L) % 2147483648L;
            alive = 2 * alive + (number / 65536 % 100 < 50 ? 0 : 1);
        }
        return alive;
    }

    private void numbering() {
        probe.sentence("Terms", "All numbered as they come; MEN, ELEPHANTS have names of their kind.");
        TuskLedger x = probe.told("tusk b 5 0;man b 7;tusk a 6 0;man a 8;debt a b 1 b 0;debt b a 2 a 0;");
        probe.due("named(0, b)", x.named(0, Probe.letters("b")), 0);
        probe.due("named(0, a)", x.named(0, Probe.letters("a")), 1);
        probe.due("named(1, b)", x.named(1, Probe.letters("b")), 0);
        probe.due("named(1, a)", x.named(1, Probe.letters("a")), 1);
        probe.due("debt(0, 0)", x.debt(0, 0), 1);
        probe.due("debt(0, 3)", x.debt(0, 3), 0);
        probe.due("debt(1, 2)", x.debt(1, 2), 2);
        probe.wrong("man a 1;tusk b 1 1;debt ^b a 1 b 0;", 4);
    }

    private void firstFault() {
        probe.sentence("Terms", "FAULTS, the first along the text (of one place the least), with its place:");
        probe.wrong("man a ^1000;#", 2);
        probe.wrong("man a 1^#;man a 1000;", 1);
        probe.wrong("man a 1;man ^a 1000;", 3);
        probe.wrong("tusk t 1 0;lean t ^t 100;", 5);
        probe.wrong("tusk t 1 0;lean ^u u 100;", 4);
        probe.wrong("rate 1;^rate 101;", 3);
        // A token that can't stand there is that first, even where it would be too much, too.
        String eight = "law pay ((((((((1";
        probe.wrong(eight + " ^(", 1);
        probe.wrong("law pay 1 ^10000;", 1);
        probe.wrong("man ^1000 1;", 1);
        String knots = "law pay not " + "1+".repeat(31) + "1";
        probe.wrong(knots + " ^1;", 1);
        probe.wrong(knots + " ^not;", 1);
        // The 65th knot is too much, but the law that is told already stands ahead of it.
        probe.wrong(knots + ";law ^pay 1;", 3);
    }

    private void faultOne() {
        probe.sentence("Terms", "1 a TOKEN that is none (a word of more than 6 letters that is none of the language, too) "
            + "or can't stand there (the length, if more must come).");
        for (char sign : "!\"#$%&',.?@[\\]^_|~".toCharArray()) {
            if (sign != '^') {
                probe.wrong("rate 1;^" + sign + "rate 2;", 1);
            }
        }
        probe.wrong("^manmanm a 1;", 1);
        probe.wrong("man ^abcdefg 1;", 1);
        probe.wrong("man ^abcdefghijklmnopqrstuvwxyz 1;", 1);
        probe.wrong("law pay ^purses;", 1);
        probe.wrong("law pay ^pursesum;", 1);
        probe.wrong("^a 1;", 1);
        probe.wrong("^1;", 1);
        probe.wrong("man a 1^", 1);
        probe.wrong("man a 1 \n ^", 1);
        probe.wrong("law pay (1+2^", 1);
        // The length is that of the text, not of the tape.
        TuskLedger x = new TuskLedger();
        Probe.feed(x, "man abcdefg 1;");
        probe.due("text(10) of man abcdefg 1;", x.text(10), -1);
        probe.due("fault(0)", x.fault(0), 1);
        probe.due("fault(1)", x.fault(1), 10);
        Probe.feed(x, "man a 1000;");
        probe.due("text(9) of man a 1000;", x.text(9), -1);
        probe.due("fault(0)", x.fault(0), 1);
        probe.due("fault(1)", x.fault(1), 9);
        // A text of the whole tape.
        String full = " ".repeat(697) + "man";
        TuskLedger y = new TuskLedger();
        Probe.feed(y, full);
        probe.due("text(700)", y.text(700), -1);
        probe.due("fault(1)", y.fault(1), 700);
    }

    private void faultTwo() {
        probe.sentence("Terms", "2 too much (at it): a number beyond what is said, a seventh man and so on (at the word of "
            + "the LINE), a ninth '(' open, a 65th KNOT of all E (N, NAMES, signs, not, and, or: one each).");
        probe.wrong("man a 1;man b 1;man c 1;man d 1;man e 1;man f 1;^man", 2);
        probe.wrong("man a 1;man b 1;man c 1;man d 1;man e 1;man f 1;^man a 1000;", 2);
        probe.wrong(TWO + "debt a b 1 t 0;".repeat(8) + "^debt x", 2);
        probe.wrong(TWO + "lean t u 1;".repeat(10) + "^lean t t 1;", 2);
        probe.right("law pay ((((((((1))))))));", 1);
        probe.right("law pay " + "(".repeat(8) + "1" + ")".repeat(8) + "+" + "(".repeat(8) + "1" + ")".repeat(8) + ";", 1);
        probe.wrong("law pay ((((((((^(1)))))))));", 2);
        probe.wrong("law pay (((((((1)+((^(1)))))))));", 2);
        // Brackets are counted of one law, knots of all.
        probe.right("law pay ((((((((1))))))));law die ((((((((1))))))));", 2);
        String sixtyThree = "1+".repeat(31) + "1";
        probe.right("law pay " + sixtyThree + ";law die 1;", 2);
        probe.due("count(3)", probe.told("law pay " + sixtyThree + ";law die 1;").count(3), 64);
        probe.wrong("law pay " + sixtyThree + ";law die 1^+1;", 2);
        probe.wrong("law pay " + sixtyThree + ";law die sum^<>1;", 2);
        probe.wrong("law pay " + sixtyThree + ";law die 1 ^and 1;", 2);
        probe.wrong("law pay " + sixtyThree + ";law die 1 ^or 1;", 2);
        probe.wrong("law pay " + sixtyThree + ";law die not ^not 1;", 2);
        probe.wrong("law pay " + sixtyThree + ";law die not ^1;", 2);
        probe.wrong("law pay " + sixtyThree + ";law die not ^age;", 2);
        probe.wrong("law pay " + sixtyThree + ";law die 1;law pass ^1;", 2);
        probe.right("law pay " + "not ".repeat(63) + "1;", 1);
        probe.wrong("law pay " + "not ".repeat(64) + "^1;", 2);
        probe.wrong("law pay " + "not ".repeat(64) + "^not 1;", 2);
        probe.due("one each", probe.told("law pay not sum+1 and age<=2 or (day);").count(3), 10);
    }

    private void faultThree() {
        probe.sentence("Terms", "3 told already: a name of its kind (at W), the death of an ELEPHANT (at W), rate, seed "
            + "(at the word), a law of its RULE (at RULE).");
        probe.right("man a 1;tusk a 1 1;", 2);
        probe.wrong("man a 1;man ^a 2;", 3);
        probe.wrong("man a 1;man b 1;man ^b", 3);
        probe.wrong("tusk a 1 1;tusk ^a 1 1;", 3);
        probe.wrong(TWO + "dies t 1;dies u 1;dies ^u 1;", 3);
        probe.wrong("rate 0;seed 0;^rate 0;", 3);
        probe.wrong("seed 0;rate 0;^seed 0;", 3);
        for (String rule : new String[] {"pass", "pay", "die"}) {
            probe.wrong("law pass 0;law pay 0;law die 0;law ^" + rule + " 0;", 3);
        }
        probe.right("man a 1;man ab 1;", 2);
    }

    private void faultFour() {
        probe.sentence("Terms", "4 a MAN, an ELEPHANT that isn't told ahead (at W).");
        probe.wrong(TWO + "debt ^t a 1 t 0;", 4);
        probe.wrong(TWO + "debt a ^t 1 t 0;", 4);
        probe.wrong(TWO + "debt a b 1 ^a 0;", 4);
        probe.wrong(TWO + "debt a ^c 1 t 0;man c 1;", 4);
        probe.wrong(TWO + "lean ^a t 0;", 4);
        probe.wrong(TWO + "lean t ^a 0;", 4);
        probe.wrong(TWO + "dies ^v 0;tusk v 1 1;", 4);
        // What an earlier text told is not told ahead.
        TuskLedger x = probe.told(TWO);
        probe.due("dies t 0;", Probe.tell(x, "dies t 0;"), -1);
        probe.due("fault(0)", x.fault(0), 4);
    }

    private void faultFive() {
        probe.sentence("Terms", "5 a DEBT to oneself, a leaning on oneself (at the second W).");
        probe.wrong(TWO + "debt a ^a 1 t 0;", 5);
        probe.wrong(TWO + "debt b ^b 0 t 0;", 5);
        probe.wrong(TWO + "lean t ^t 0;", 5);
        probe.wrong(TWO + "lean u ^u 100;", 5);
        probe.right(TWO + "man t 1;debt a t 1 t 0;debt t a 1 t 0;", 7);
    }

    private void newObject() {
        probe.sentence("1", "A TEXT without LINES; an empty TAPE.");
        TuskLedger x = new TuskLedger();
        for (int what = 0; what <= 14; what++) {
            probe.due("count(" + what + ")", x.count(what), 0);
        }
        probe.due("text(1)", x.text(1), -2);
        probe.due("feed", x.feed(0, 0, 0, 0, 0), 20);
        probe.due("text(0) of a new one", new TuskLedger().text(0), 0);
    }

    private void feedHighestFirst() {
        probe.sentence("2", "Twenty bytes come behind the TAPE, four of each number, the highest first: how many it has;");
        TuskLedger x = new TuskLedger();
        // "man a 5;" and "tusk " / "t 7 0;" told by two feeds, and then a byte of 255, not of -1.
        probe.due("feed", x.feed(0x6d616e20, 0x6120353b, 0x74757368 + 3, 0x20742037, 0x20303b20), 20);
        probe.due("feed", x.feed(-1, BLANKS, 0x80808080, 0, BLANKS), 40);
        probe.due("text(20)", x.text(20), 2);
        probe.due("man(0, 0)", x.man(0, 0), 5);
        probe.due("tusk(0, 0)", x.tusk(0, 0), 7);
        x.feed(0x6d616e20, 0x6120353b, -1, BLANKS, BLANKS);
        probe.due("text(9)", x.text(9), -1);
        probe.due("fault(0)", x.fault(0), 1);
        probe.due("fault(1)", x.fault(1), 8);
    }

    private void feedFull() {
        probe.sentence("2", "NONE, and none come, if it would have more than 700.");
        TuskLedger x = new TuskLedger();
        for (int i = 1; i <= 35; i++) {
            probe.due("feed " + i, x.feed(BLANKS, BLANKS, BLANKS, BLANKS, BLANKS), 20 * i);
        }
        probe.due("feed 36", x.feed(1, 1, 1, 1, 1), -1);
        probe.due("feed 37", x.feed(1, 1, 1, 1, 1), -1);
        probe.due("text(701)", x.text(701), -2);
        probe.due("text(700): none came", x.text(700), 0);
        probe.due("feed", x.feed(BLANKS, BLANKS, BLANKS, BLANKS, BLANKS), 20);
    }

    private void textOfTape() {
        probe.sentence("3", "The TAPE's first n bytes (it is empty then) are the TEXT");
        TuskLedger x = new TuskLedger();
        Probe.feed(x, "man a 1;man b 2;");
        probe.due("text(8)", x.text(8), 1);
        probe.due("count(0)", x.count(0), 1);
        probe.due("text(1) of what was behind", x.text(1), -2);
        Probe.feed(x, "man a 1;man b 2;");
        probe.due("text(0)", x.text(0), 0);
        probe.due("count(0)", x.count(0), 0);
        probe.due("text(1) of what was behind", x.text(1), -2);
        Probe.feed(x, "man a ");
        probe.due("text(7): a fault", x.text(7), -1);
        probe.due("it is empty then, too", x.text(1), -2);
        Probe.feed(x, "man a 1;man b 2;    ");
        probe.due("text(20), all there are", x.text(20), 2);
    }

    private static TuskLedger used(Probe probe, String world) {
        TuskLedger x = probe.told(world);
        x.go(12);
        x.image();
        x.gift(0, 3);
        x.see(1, 0, true);
        x.known(0);
        return x;
    }

    private void textAnew() {
        probe.sentence("3", "(DAY 0, all ALIVE, all DEBTS TO COME, nothing SEEN, all KNOWN ONES, no IMAGE, "
            + "nothing to undo then): how many LINES;");
        String world = "man a 50;man b 0;tusk t 9 0;tusk u 9 0;debt a b 5 t 0;dies t 1;";
        TuskLedger x = used(probe, world);
        probe.due("ALIVE ahead of it", x.count(9), 1);
        probe.due("text", Probe.tell(x, world), 6);
        probe.due("DAY", x.count(4), 0);
        probe.due("ALIVE", x.count(9), 2);
        probe.due("AGE", x.tusk(1, 0), 9);
        probe.due("TO COME", x.debt(0, 5), 0);
        probe.due("OWED", x.debt(0, 6), 0);
        probe.due("nobody KNOWS it", x.debt(0, 7), 0);
        probe.due("PURSE", x.man(0, 0), 50);
        probe.due("SEEN", x.count(12), 0);
        probe.due("see", x.see(1, 0, true), 0);
        probe.due("KNOWN by all", x.count(13), 1);
        probe.due("had", x.had(0), 0);
        probe.due("IMAGE", x.back(), -1);
        probe.due("undo", x.undo(), -1);
        probe.due("nothing to undo", x.count(14), 0);
        for (int i = 0; i < 2; i++) {
            probe.due("text(0)", x.text(0), 0);
            for (int what = 0; what <= 14; what++) {
                probe.due("of no LINES: count(" + what + ")", x.count(what), 0);
            }
        }
    }

    /** Everything of every kind, and with it nothing of what was told ahead, by texts that were right or wrong. */
    private void textForgets() {
        probe.sentence("3", "are the TEXT (DAY 0, all ALIVE,");
        String all = "man a 50;man b 1;man c 2;man d 4;tusk t 90 3;tusk u 9 0;tusk x 9 0;tusk y 9 0;debt a b 5 t 0;"
            + "debt a b 6 u 0;debt c d 1 x 0;lean t u 0;lean t u 0;dies u 0;dies t 1;rate 100;seed 77;law pay 0;"
            + "law pass 0;law die 100;";
        String few = "man a 50;man b 1;tusk t 90 0;tusk u 9 0;tusk v 5 0;debt a b 7 t 0;debt a b 10 u 8;lean t v 0;";
        TuskLedger x = new TuskLedger();
        for (int i = 0; i < 4; i++) {
            probe.due("text of much", Probe.tell(x, all), 20);
            probe.due("text of much", Probe.tell(x, all), 20);
            if (i % 2 == 1) {
                x.go(20);
                probe.due("text with a fault behind much", Probe.tell(x, all + "rate"), -1);
            }
            probe.due("text of few", Probe.tell(x, few), 8);
            probe.due("MEN", x.count(0), 2);
            probe.due("ELEPHANTS", x.count(1), 3);
            probe.due("KNOTS", x.count(3), 0);
            probe.due("DEBTS", x.count(2), 2);
            probe.due("PURSES in sum", x.count(11), 51);
            probe.due("ALIVE", x.count(9), 3);
            probe.due("nobody KNOWS", x.debt(0, 7), 0);
            probe.due("TO COME", x.debt(0, 5), 0);
            for (int what = 0; what < 3; what++) {
                probe.due("law " + what, x.law(what, 0, 0), Long.MIN_VALUE);
            }
            probe.due("the numbers", x.chance(0, 10, 0), 10 - deadOfTen(31));
            x.go(2);
            probe.due("none died", x.count(9), 3);
            probe.due("passed on by one leaning", x.debt(0, 7), 5);
            probe.due("without buns", x.man(0, 0), 43);
            x.go(8);
            probe.due("no rate", x.debt(1, 6), 10);
            probe.due("by the first number of seed 0 t dies", x.tusk(0, 2), 0);
            probe.due("u", x.tusk(1, 2), 1);
            Probe.tell(x, "tusk t 1 0;dies t 5;rate 1;seed 1;");
            probe.due("rate, seed and a death can be told again", x.fault(0), 0);
        }
    }

    /** How many of ten numbers behind seed 0 are below the odds, one each. */
    private static int deadOfTen(int odds) {
        long number = 0;
        int dead = 0;
        for (int i = 0; i < 10; i++) {
            number = (number * 1103515245L + 12345L) % 2147483648L;
            dead += number / 65536 % 100 < odds ? 1 : 0;
        }
        return dead;
    }

    private void textWithFault() {
        probe.sentence("3", "NONE with a FAULT, all stays;");
        TuskLedger x = used(probe, "man a 50;man b 0;tusk t 9 0;tusk u 9 0;debt a b 5 t 0;dies t 1;law pay 7;");
        probe.due("text", Probe.tell(x, "man z 1;tusk z 99 9;law die 1;law pass 1;rate 9;seed 8;rate"), -1);
        probe.due("MEN", x.count(0), 2);
        probe.due("ELEPHANTS", x.count(1), 2);
        probe.due("DEBTS", x.count(2), 1);
        probe.due("KNOTS", x.count(3), 1);
        probe.due("DAY", x.count(4), 12);
        probe.due("PAID", x.count(6), 1);
        probe.due("ALIVE", x.count(9), 1);
        probe.due("PURSES", x.count(11), 53);
        probe.due("SEEN", x.count(12), 1);
        probe.due("KNOWN by none", x.count(13), 0);
        probe.due("what can be undone", x.count(14), 1);
        probe.due("named(0, a)", x.named(0, Probe.letters("a")), 0);
        probe.due("named(0, z)", x.named(0, Probe.letters("z")), -1);
        probe.due("law of pay", x.law(1, 0, 0), 7);
        probe.due("law of die", x.law(2, 0, 0), Long.MIN_VALUE);
        probe.due("AGE", x.tusk(1, 0), 10);
        probe.due("undo", x.undo(), 0);
        probe.due("back", x.back(), 12);
    }

    private void textRefused() {
        probe.sentence("3", "-2, and the TAPE stays: there are not so many, n is below 0.");
        TuskLedger x = probe.told("man a 1;");
        probe.due("text(1) of none", x.text(1), -2);
        Probe.feed(x, "man b 1;man c 1;    ");
        probe.due("text(21)", x.text(21), -2);
        probe.due("text(-1)", x.text(-1), -2);
        probe.due("text(MAX)", x.text(Integer.MAX_VALUE), -2);
        probe.due("text(MIN)", x.text(Integer.MIN_VALUE), -2);
        probe.due("the old TEXT", x.count(0), 1);
        probe.due("the TAPE stays: feed", x.feed(BLANKS, BLANKS, BLANKS, BLANKS, BLANKS), 40);
        probe.due("text(40)", x.text(40), 2);
    }

    private void faultOfLatest() {
        probe.sentence("4", "Of the latest text() that was not -2, what 0: its FAULT (0), 1: its place (NONE without).");
        TuskLedger x = new TuskLedger();
        probe.due("fault(0) ahead of all", x.fault(0), 0);
        probe.due("fault(1) ahead of all", x.fault(1), -1);
        Probe.tell(x, "man a 1000;");
        probe.due("fault(0)", x.fault(0), 2);
        probe.due("fault(1)", x.fault(1), 6);
        x.text(1);
        x.text(-1);
        probe.due("fault(0) behind -2", x.fault(0), 2);
        probe.due("fault(1) behind -2", x.fault(1), 6);
        Probe.tell(x, "#");
        probe.due("fault(0)", x.fault(0), 1);
        probe.due("fault(1)", x.fault(1), 0);
        x.text(0);
        probe.due("fault(0) of a right one", x.fault(0), 0);
        probe.due("fault(1) of a right one", x.fault(1), -1);
        x.text(1);
        probe.due("fault(0) behind -2", x.fault(0), 0);
    }

    private void faultOfAnotherWhat() {
        probe.sentence("4", "NONE for another what.");
        TuskLedger x = new TuskLedger();
        Probe.tell(x, "man a 1000;");
        for (int what : new int[] {-1, 2, 3, Integer.MAX_VALUE, Integer.MIN_VALUE}) {
            probe.due("fault(" + what + ")", x.fault(what), -1);
        }
    }

    private void namedByLetters() {
        probe.sentence("5", "The number of a MAN (what 0), an ELEPHANT (1) by its letters, 5 bits each (a is 1; the first "
            + "one highest of six, 0 behind the last one);");
        TuskLedger x = probe.told("man a 1;man zzzzzz 1;man ab 1;tusk z 1 1;tusk a 1 1;");
        probe.due("a", x.named(0, 1 << 25), 0);
        int sixZ = 26 << 25 | 26 << 20 | 26 << 15 | 26 << 10 | 26 << 5 | 26;
        probe.due("zzzzzz", x.named(0, sixZ), 1);
        probe.due("ab", x.named(0, 1 << 25 | 2 << 20), 2);
        probe.due("tusk z", x.named(1, 26 << 25), 0);
        probe.due("tusk a", x.named(1, 1 << 25), 1);
    }

    private void namedNone() {
        probe.sentence("5", "NONE: there is none such.");
        TuskLedger x = probe.told("man a 1;man zzzzzz 1;man ab 1;tusk z 1 1;");
        probe.due("an elephant's name of a man", x.named(0, 26 << 25), -1);
        probe.due("a man's name of an elephant", x.named(1, 1 << 25), -1);
        probe.due("a at the lowest place", x.named(0, 1), -1);
        probe.due("ac", x.named(0, 1 << 25 | 3 << 20), -1);
        probe.due("a b", x.named(0, 1 << 25 | 2 << 15), -1);
        probe.due("no letters", x.named(0, 0), -1);
        probe.due("a bit above six letters", x.named(0, 1 << 25 | 1 << 30), -1);
        probe.due("below 0", x.named(0, 1 << 25 | 1 << 31), -1);
        probe.due("what 2", x.named(2, 1 << 25), -1);
        probe.due("what -1", x.named(-1, 1 << 25), -1);
        probe.due("a name that an earlier text told", renamed(x), -1);
        probe.due("of a new object", new TuskLedger().named(0, 0), -1);
    }

    private static int renamed(TuskLedger x) {
        Probe.tell(x, "man b 1;");
        return x.named(0, Probe.letters("ab"));
    }
}
