/** What the tests share: texts fed as bytes, answers compared, wrong ones told and counted. */
final class Probe {
    private int wrong;

    /** Bytes that a feed takes together. */
    static int[] numbers(String text, int from) {
        int[] five = new int[5];
        for (int i = 0; i < 20; i++) {
            int sign = from + i < text.length() ? text.charAt(from + i) & 255 : 32;
            five[i / 4] = five[i / 4] << 8 | sign;
        }
        return five;
    }

    static void feed(TuskLedger x, String text) {
        for (int from = 0; from < text.length(); from += 20) {
            int[] f = numbers(text, from);
            x.feed(f[0], f[1], f[2], f[3], f[4]);
        }
    }

    static int tell(TuskLedger x, String text) {
        feed(x, text);
        return x.text(text.length());
    }

    TuskLedger told(String text) {
        TuskLedger x = new TuskLedger();
        int lines = tell(x, text);
        if (lines < 0) {
            due("text of \"" + text + "\" is refused, fault " + x.fault(0) + " at " + x.fault(1), 1, 0);
        }
        return x;
    }

    void due(String call, long got, long want) {
        if (got != want) {
            wrong++;
            System.out.println(call + " answered " + got + ", due is " + want);
        }
    }

    void due(String call, boolean got, boolean want) {
        due(call, got ? 1 : 0, want ? 1 : 0);
    }

    static int letters(String name) {
        int code = 0;
        for (int i = 0; i < 6; i++) {
            code = code << 5 | (i < name.length() ? name.charAt(i) - 'a' + 1 : 0);
        }
        return code;
    }

    /** Ends the test, with exit code 1 if an answer was wrong. */
    void end() {
        System.out.println(wrong == 0 ? "all answers are as due" : wrong + " answers are not as due");
        if (wrong != 0) {
            System.exit(1);
        }
    }
}
