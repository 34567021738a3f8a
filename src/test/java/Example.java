/** The example of README.md: ReadmeTest runs it and compares what it prints with what README.md says. */
public final class Example {
    public static void main(String[] args) {
        String text = "man al 100;man bo 20;man cy 5;"
            + "tusk old 70 3;tusk kid 6 0;"
            + "debt al bo 40 old 0;debt bo cy 10 kid 1;"
            + "lean old kid 3;dies old 4;rate 10;"
            + "law pay days >= 8 and purse >= sum;";
        TuskLedger ledger = new TuskLedger();
        for (int at = 0; at < text.length(); at += 20) {
            ledger.feed(four(text, at), four(text, at + 4), four(text, at + 8), four(text, at + 12), four(text, at + 16));
        }
        if (ledger.text(text.length()) == TuskLedger.NONE) {
            System.out.println("fault " + ledger.fault(0) + " at " + ledger.fault(1));
            return;
        }
        System.out.println("it is day " + ledger.go(2));
        System.out.println("bo owes " + ledger.debt(0, 6) + ", his net is " + ledger.man(1, 1));
        System.out.println("debt 0 is known by " + ledger.debt(0, 7) + ", it ends in " + ledger.ends(0) + " days");
        System.out.println("forgiven, if nobody leans: " + ledger.tried(3, 0, 10));
        System.out.println("payings that clear all: " + ledger.clear());
        System.out.println("cy lends bo 3: debt " + ledger.lend(2, 1, 3, 1) + ", undone, left " + ledger.undo());
        ledger.image();
        System.out.println("it is day " + ledger.go(10) + ", paid are " + ledger.count(6));
        System.out.println("back on day " + ledger.back() + ", paid are " + ledger.count(6));
    }

    /** Four bytes of the text as one number, the highest first; blanks behind its end. */
    private static int four(String text, int from) {
        int number = 0;
        for (int at = from; at < from + 4; at++) {
            number = number << 8 | (at < text.length() ? text.charAt(at) : ' ');
        }
        return number;
    }
}
