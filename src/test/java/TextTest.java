/** Promises 1 to 5: a new object, feed, text, fault, named. */
public final class TextTest {
    private static final Probe PROBE = new Probe();

    public static void main(String[] args) {
        newObject();
        feeding();
        tapeOfText();
        cutTexts();
        whatTextChanges();
        whatAFaultLeaves();
        words();
        numbers();
        tooMany();
        toldAlready();
        notTold();
        laws();
        comparisons();
        brackets();
        knots();
        faultAnswers();
        names();
        PROBE.end();
    }

    private static void newObject() {
        TuskLedger x = new TuskLedger();
        for (int what = 0; what <= 14; what++) {
            PROBE.due("new: count(" + what + ")", x.count(what), 0);
        }
        PROBE.due("new: fault(0)", x.fault(0), 0);
        PROBE.due("new: fault(1)", x.fault(1), -1);
        PROBE.due("new: text(1)", x.text(1), -2);
        PROBE.due("new: feed", x.feed(0, 0, 0, 0, 0), 20);
    }

    private static void feeding() {
        TuskLedger x = new TuskLedger();
        int blanks = 0x20202020;
        for (int i = 1; i <= 35; i++) {
            PROBE.due("feed " + i, x.feed(blanks, blanks, blanks, blanks, blanks), 20 * i);
        }
        PROBE.due("feed 36", x.feed(blanks, blanks, blanks, blanks, blanks), -1);
        PROBE.due("text(701)", x.text(701), -2);
        PROBE.due("text(700)", x.text(700), 0);
        PROBE.due("feed behind text", x.feed(blanks, blanks, blanks, blanks, blanks), 20);
        // The highest byte comes first, and a byte above 127 is a token that is none.
        x = new TuskLedger();
        x.feed(0x6d616e20, 0x6120353b, 0x2020ff20, blanks, blanks);
        PROBE.due("text(10)", x.text(10), 1);
        PROBE.due("man(0, 0)", x.man(0, 0), 5);
        x.feed(0x6d616e20, 0x6120353b, 0x2020ff20, blanks, blanks);
        PROBE.due("text(20)", x.text(20), -1);
        PROBE.due("fault(1)", x.fault(1), 10);
    }

    private static void tapeOfText() {
        TuskLedger x = new TuskLedger();
        Probe.feed(x, "man a 5;man a 5;");
        PROBE.due("text(21)", x.text(21), -2);
        PROBE.due("text(-1)", x.text(-1), -2);
        PROBE.due("feed", x.feed(0, 0, 0, 0, 0), 40);
        PROBE.due("text(8)", x.text(8), 1);
        PROBE.due("text(1) of an empty tape", x.text(1), -2);
        Probe.feed(x, "man a 5;man a 5;");
        PROBE.due("text(16)", x.text(16), -1);
        PROBE.due("the tape is empty behind a fault", x.text(1), -2);
    }

    /** What is on the tape behind the first n bytes is no part of the text. */
    private static void cut(String text, int n, int fault, int place) {
        TuskLedger x = new TuskLedger();
        Probe.feed(x, text);
        PROBE.due("text(" + n + ") of " + text, x.text(n), -1);
        PROBE.due("fault(0) of that", x.fault(0), fault);
        PROBE.due("fault(1) of that", x.fault(1), place);
    }

    private static void cutTexts() {
        cut("law pay 1;", 2, 1, 0);
        cut("man abcdefg 1;", 10, 1, 10);
        cut("man a 1000;", 9, 1, 9);
        cut("man a 1;", 7, 1, 7);
        cut("law pay 1<=2;", 10, 1, 10);
    }

    private static final String WORLD = "man a 50;man b 0;tusk t 9 0;tusk u 9 0;debt a b 5 t 0;law pay 0;";

    private static TuskLedger used() {
        TuskLedger x = PROBE.told(WORLD);
        x.go(2);
        x.image();
        x.gift(0, 3);
        x.see(1, 0, true);
        x.known(0);
        return x;
    }

    private static void whatTextChanges() {
        TuskLedger x = used();
        PROBE.due("text anew", Probe.tell(x, WORLD), 6);
        PROBE.due("count(4)", x.count(4), 0);
        PROBE.due("debt(0, 5)", x.debt(0, 5), 0);
        PROBE.due("man(0, 0)", x.man(0, 0), 50);
        PROBE.due("count(9)", x.count(9), 2);
        PROBE.due("count(12)", x.count(12), 0);
        PROBE.due("count(14)", x.count(14), 0);
        PROBE.due("back()", x.back(), -1);
        PROBE.due("undo()", x.undo(), -1);
        x.see(1, 0, true);
        PROBE.due("all are known ones again: count(13)", x.count(13), 1);
        PROBE.due("an empty text", x.text(0), 0);
        PROBE.due("count(0)", x.count(0), 0);
        PROBE.due("count(3)", x.count(3), 0);
    }

    private static void whatAFaultLeaves() {
        TuskLedger x = used();
        PROBE.due("text with a fault", Probe.tell(x, "man z 1;law die 7;man z"), -1);
        PROBE.due("count(0)", x.count(0), 2);
        PROBE.due("count(4)", x.count(4), 2);
        PROBE.due("man(0, 0)", x.man(0, 0), 48);
        PROBE.due("law(1, 0, 0)", x.law(1, 0, 0), 0);
        PROBE.due("law(2, 0, 0)", x.law(2, 0, 0), Long.MIN_VALUE);
        PROBE.due("named(0, z)", x.named(0, Probe.letters("z")), -1);
        PROBE.due("count(12)", x.count(12), 1);
        PROBE.due("count(13)", x.count(13), 0);
        PROBE.due("undo()", x.undo(), 0);
        PROBE.due("back()", x.back(), 2);
    }

    private static void right(String text, int lines) {
        TuskLedger x = new TuskLedger();
        PROBE.due("text of " + text, Probe.tell(x, text), lines);
        PROBE.due("fault(0) of " + text, x.fault(0), 0);
        PROBE.due("fault(1) of " + text, x.fault(1), -1);
    }

    private static void wrong(String text, int fault, int place) {
        TuskLedger x = new TuskLedger();
        PROBE.due("text of " + text, Probe.tell(x, text), -1);
        PROBE.due("fault(0) of " + text, x.fault(0), fault);
        PROBE.due("fault(1) of " + text, x.fault(1), place);
    }

    private static void words() {
        right("", 0);
        right(" \n ", 0);
        right("man a 1;", 1);
        right("man\na\n1\n;\n", 1);
        right("man a1;tusk a1 1;", 2);
        right("man abcdef 1;man ma 1;man z 0;", 3);
        wrong("man", 1, 3);
        wrong("man ", 1, 4);
        wrong("man a", 1, 5);
        wrong("man a 1", 1, 7);
        wrong("man a 1 ", 1, 8);
        wrong("man abcdefg 1;", 1, 4);
        wrong("man sum 1;", 1, 4);
        wrong("man pass 1;", 1, 4);
        wrong("tusk day 1 1;", 1, 5);
        wrong("mana 1;", 1, 0);
        wrong("foo 1;", 1, 0);
        wrong("pass 1;", 1, 0);
        wrong("7;", 1, 0);
        wrong(";", 1, 0);
        wrong("man a 1;;", 1, 8);
        wrong("man\ta 1;", 1, 3);
        wrong("Man a 1;", 1, 0);
        wrong("man a 1.", 1, 7);
        wrong("man a 1 2;", 1, 8);
        wrong("man 1 a;", 1, 4);
        wrong("man a b;", 1, 6);
        wrong("man a -1;", 1, 6);
        wrong("tusk a 1;", 1, 8);
        wrong("man a 1;#man a 1000", 1, 8);
    }

    private static void numbers() {
        right("man a 999;", 1);
        right("man a 000000000999;", 1);
        wrong("man a 1000;", 2, 6);
        wrong("man a 99999999999999999999;", 2, 6);
        wrong("man a 4294967296;", 2, 6);
        wrong("man a 1000#", 2, 6);
        right("tusk a 99 9;", 1);
        wrong("tusk a 100 9;", 2, 7);
        wrong("tusk a 99 10;", 2, 10);
        String world = "man a 1;man b 1;tusk t 1 1;tusk u 1 1;";
        right(world + "debt a b 1 t 0;debt b a 99 t 99;", 6);
        wrong(world + "debt a b 0 t 0;", 2, 47);
        wrong(world + "debt a b 100 t 0;", 2, 47);
        wrong(world + "debt a b 1 t 100;", 2, 51);
        right(world + "lean t u 99;dies t 99;dies u 0;", 7);
        wrong(world + "lean t u 100;", 2, 47);
        wrong(world + "dies t 100;", 2, 45);
        right("rate 100;seed 99999;", 2);
        wrong("rate 101;", 2, 5);
        wrong("seed 100000;", 2, 5);
        right("law pay 9999;", 1);
        wrong("law pay 10000;", 2, 8);
    }

    private static void tooMany() {
        String men = "man a 1;man b 1;man c 1;man d 1;man e 1;man f 1;";
        right(men, 6);
        wrong(men + "man a 1;", 2, 48);
        wrong(men + "man", 2, 48);
        String tusks = "tusk a 1 1;tusk b 1 1;tusk c 1 1;tusk d 1 1;tusk e 1 1;tusk f 1 1;";
        right(men + tusks, 12);
        wrong(tusks + "tusk g 1 1;", 2, 66);
        String head = "man a 9;man b 9;tusk t 1 1;tusk u 1 1;";
        StringBuilder debts = new StringBuilder(head);
        for (int i = 0; i < 8; i++) {
            debts.append("debt a b 1 t 0;");
        }
        right(debts.toString(), 12);
        wrong(debts + "debt a a 1 t 0;", 2, 38 + 8 * 15);
        StringBuilder leans = new StringBuilder(head);
        for (int i = 0; i < 10; i++) {
            leans.append("lean t u 0;");
        }
        right(leans.toString(), 14);
        wrong(leans + "lean t u 0;", 2, 38 + 10 * 11);
    }

    private static void toldAlready() {
        right("man a 1;tusk a 1 1;", 2);
        wrong("man a 1;man a 1;", 3, 12);
        wrong("tusk a 1 1;tusk a 1 1;", 3, 16);
        wrong("tusk t 1 1;dies t 1;dies t 1;", 3, 25);
        wrong("rate 1;rate 1;", 3, 7);
        wrong("seed 1;seed", 3, 7);
        wrong("law pay 1;law die 1;law pay 1;", 3, 24);
    }

    private static void notTold() {
        String head = "man m 1;tusk t 1 1;";
        wrong(head + "debt t m 1 t 0;", 4, 24);
        wrong(head + "debt m t 1 t 0;", 4, 26);
        wrong(head + "debt m m 1 t 0;", 5, 26);
        wrong(head + "man n 1;debt m n 1 m 0;", 4, 38);
        wrong(head + "lean m t 0;", 4, 24);
        wrong(head + "lean t m 0;", 4, 26);
        wrong(head + "lean t t 0;", 5, 26);
        wrong(head + "dies m 0;", 4, 24);
        wrong(head + "dies u 0;tusk u 1 1;", 4, 24);
    }

    private static void laws() {
        right("law pass 1;law pay 1;law die 1;", 3);
        right("law pay sum+age*purse-known/days<knows and day or not not 1;", 1);
        wrong("law 1;", 1, 4);
        wrong("law sum 1;", 1, 4);
        wrong("law pay;", 1, 7);
        wrong("law pay ;", 1, 8);
        wrong("law pay 1", 1, 9);
        wrong("law pay 1 2;", 1, 10);
        wrong("law pay sum sum;", 1, 12);
        wrong("law pay 1+;", 1, 10);
        wrong("law pay +1;", 1, 8);
        wrong("law pay -1;", 1, 8);
        wrong("law pay 1+-1;", 1, 10);
        wrong("law pay 1 not;", 1, 10);
        wrong("law pay 1 + not 1;", 1, 12);
        wrong("law pay 1 < not 1;", 1, 12);
        wrong("law pay 1 and;", 1, 13);
        wrong("law pay or 1;", 1, 8);
        wrong("law pay man;", 1, 8);
        wrong("law pay foo;", 1, 8);
    }

    private static void comparisons() {
        right("law pay 1<2;", 1);
        right("law pay 1<=2;", 1);
        right("law pay 1=2;", 1);
        right("law pay 1<>2;", 1);
        right("law pay 1>=2;", 1);
        right("law pay 1>2;", 1);
        right("law pay (1<2)<3;", 1);
        wrong("law pay 1<2<3;", 1, 11);
        wrong("law pay 1< =2;", 1, 11);
        wrong("law pay 1< >2;", 1, 11);
        wrong("law pay 1> =2;", 1, 11);
        wrong("law pay 1=<2;", 1, 10);
        wrong("law pay 1=>2;", 1, 10);
        wrong("law pay 1><2;", 1, 10);
        wrong("law pay 1<>=2;", 1, 11);
        wrong("law pay 1==2;", 1, 10);
    }

    private static void brackets() {
        right("law pay ((((((((1))))))));", 1);
        wrong("law pay (((((((((1)))))))));", 2, 16);
        wrong("law pay (((((((((", 2, 16);
        right("law pay (1)+(1)+(1)+(1)+(1)+(1)+(1)+(1)+(1)+(1);", 1);
        right("law pay ((((((((1))))))))+((((((((1))))))));", 1);
        wrong("law pay (1;", 1, 10);
        wrong("law pay 1);", 1, 9);
        wrong("law pay ();", 1, 9);
        wrong("law pay (1 2);", 1, 11);
    }

    private static void knots() {
        StringBuilder ones = new StringBuilder("1");
        for (int i = 1; i < 32; i++) {
            ones.append("+1");
        }
        TuskLedger x = PROBE.told("law pay not " + ones + ";");
        PROBE.due("count(3)", x.count(3), 64);
        x = PROBE.told("law pay (((" + ones + ")));");
        PROBE.due("brackets are no knots: count(3)", x.count(3), 63);
        right("law pay " + ones + ";law pass 1;", 2);
        wrong("law pay " + ones + ";law pass sum<>2;", 2, 8 + 63 + 1 + 12);
        wrong("law pay " + ones + ";law pass 1;law die 7;", 2, 8 + 63 + 12 + 8);
        wrong("law pay not " + ones + "+1;", 2, 12 + 63);
        wrong("law pay not " + ones + " or 1;", 2, 12 + 64);
        wrong("law pay not " + ones + " 1;", 1, 12 + 64);
        wrong("law pay not " + ones + ";law die not 1;", 2, 12 + 63 + 9);
        StringBuilder nots = new StringBuilder("law pay");
        for (int i = 0; i < 64; i++) {
            nots.append(" not");
        }
        wrong(nots + " 1;", 2, 7 + 64 * 4 + 1);
    }

    private static void faultAnswers() {
        TuskLedger x = new TuskLedger();
        Probe.tell(x, "man a 1000;");
        PROBE.due("fault(0)", x.fault(0), 2);
        PROBE.due("fault(1)", x.fault(1), 6);
        PROBE.due("fault(2)", x.fault(2), -1);
        PROBE.due("fault(-1)", x.fault(-1), -1);
        PROBE.due("text(1)", x.text(1), -2);
        PROBE.due("fault(0) behind -2", x.fault(0), 2);
        PROBE.due("fault(1) behind -2", x.fault(1), 6);
        Probe.tell(x, "man a 1;");
        PROBE.due("fault(0) behind a right one", x.fault(0), 0);
        PROBE.due("fault(1) behind a right one", x.fault(1), -1);
    }

    private static void names() {
        TuskLedger x = PROBE.told("man a 1;man abcdef 1;tusk z 1 1;tusk a 1 1;");
        PROBE.due("named(0, a)", x.named(0, 1 << 25), 0);
        PROBE.due("named(0, abcdef)", x.named(0, Probe.letters("abcdef")), 1);
        PROBE.due("named(1, z)", x.named(1, 26 << 25), 0);
        PROBE.due("named(1, a)", x.named(1, 1 << 25), 1);
        PROBE.due("named(0, z)", x.named(0, 26 << 25), -1);
        PROBE.due("named(0, abcde)", x.named(0, Probe.letters("abcde")), -1);
        PROBE.due("named(2, a)", x.named(2, 1 << 25), -1);
        PROBE.due("named(-1, a)", x.named(-1, 1 << 25), -1);
        PROBE.due("named(0, 0)", x.named(0, 0), -1);
        PROBE.due("named(0, 1)", x.named(0, 1), -1);
        PROBE.due("named, a bit above six letters", x.named(0, 1 << 25 | 1 << 30), -1);
        PROBE.due("named, below 0", x.named(0, 1 << 25 | 1 << 31), -1);
    }
}
