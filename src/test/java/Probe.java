import java.io.IOException;
import java.nio.file.Files;
import java.nio.file.Path;
import java.util.regex.Matcher;
import java.util.regex.Pattern;

/** What the tests share: texts fed as bytes, answers compared, wrong ones told and counted. */
final class Probe {
    private static final Path DOCUMENT = Path.of("..", "shared", "DOC.md");
    /** Words by which a sentence of the document names an edge: each must be inside a sentence that is tested. */
    private static final Pattern EDGE = Pattern.compile("NONE|-2|\\.\\.|at most|at least|MIN_VALUE|Exception: |false|ERROR"
        + "|\\bcut\\b|the first|the least|fewest|\\bfirst\\b|nobody|beyond|above|below|modulo|\\bempty\\b|\\bnone\\b"
        + "|alike|REFUSED|not both|no such|\\(0\\)|without|ALIVE");

    private int wrong;
    private String sentence = "";
    private int duesOfSentence;
    private String document;
    private boolean[] quoted;

    /** Bytes that a feed takes together. */
    static int[] numbers(String text, int from) {
        int[] five = new int[5];
        for (int i = 0; i < 20; i++) {
            int sign = from + i < text.length() ? text.charAt(from + i) & 255 : 32;
            five[i / 4] = five[i / 4] << 8 | sign;
        }
        return five;
    }

    static void feed(TuskLedger x, String text) {
        for (int from = 0; from < text.length(); from += 20) {
            int[] f = numbers(text, from);
            x.feed(f[0], f[1], f[2], f[3], f[4]);
        }
    }

    static int tell(TuskLedger x, String text) {
        feed(x, text);
        return x.text(text.length());
    }

    TuskLedger told(String text) {
        TuskLedger x = new TuskLedger();
        int lines = tell(x, text);
        if (lines < 0) {
            due("text of \"" + text + "\" is refused, fault " + x.fault(0) + " at " + x.fault(1), 1, 0);
        }
        return x;
    }

    /** A text that is right, and has so many lines. */
    void right(String text, int lines) {
        TuskLedger x = new TuskLedger();
        due("text of " + text, tell(x, text), lines);
        due("fault(0) of " + text, x.fault(0), 0);
        due("fault(1) of " + text, x.fault(1), -1);
    }

    /** A text with a fault at the place of its ^, which is no part of it. */
    void wrong(String marked, int fault) {
        String text = marked.replace("^", "");
        TuskLedger x = new TuskLedger();
        due("text of " + marked, tell(x, text), -1);
        due("fault(0) of " + marked, x.fault(0), fault);
        due("fault(1) of " + marked, x.fault(1), marked.indexOf('^'));
    }

    /**
     * All that is due from here on is due by this sentence, which must stand in the document under that heading
     * ("Terms", or a promise's number).
     */
    void sentence(String heading, String words) {
        closeSentence();
        sentence = (heading.equals("Terms") ? heading : "Promise " + heading) + ", \"" + words + "\": ";
        if (document == null) {
            openDocument();
        }
        int from = document.indexOf(heading.equals("Terms") ? "## Terms" : "## Promise " + heading + ":");
        int to = from < 0 ? -1 : document.indexOf(" ## ", from);
        int at = from < 0 ? -1 : document.indexOf(words, from);
        if (at < 0 || to >= 0 && at > to) {
            tellWrong("the document has no such sentence there");
            return;
        }
        for (int i = at; i < at + words.length(); i++) {
            quoted[i] = true;
        }
    }

    private void openDocument() {
        try {
            document = Files.readString(DOCUMENT).replaceAll("\\s+", " ");
        } catch (IOException e) {
            document = "";
            tellWrong("the document can't be read: " + e);
        }
        quoted = new boolean[document.length()];
    }

    /** Every word of the terms and promises that names an edge must be inside a sentence that was tested. */
    void dueAllEdgesQuoted() {
        closeSentence();
        int from = document == null ? -1 : document.indexOf("## Terms");
        int to = from < 0 ? -1 : document.indexOf("## Not promised");
        if (to < 0) {
            tellWrong("no sentence of the document was tested");
            return;
        }
        Matcher edges = EDGE.matcher(document).region(from, to);
        while (edges.find()) {
            if (!quoted[edges.start()] && document.charAt(Math.max(0, edges.start() - 1)) != '`') {
                int start = Math.max(from, edges.start() - 50);
                tellWrong("no test of the edge \"" + edges.group() + "\" in: .. "
                    + document.substring(start, Math.min(to, edges.end() + 50)) + " ..");
            }
        }
    }

    private void closeSentence() {
        if (!sentence.isEmpty() && duesOfSentence == 0) {
            tellWrong("nothing is tested");
        }
        duesOfSentence = 0;
        sentence = "";
    }

    private void tellWrong(String what) {
        wrong++;
        System.out.println(sentence + what);
    }

    void due(String call, long got, long want) {
        duesOfSentence++;
        if (got != want) {
            tellWrong(call + " answered " + got + ", due is " + want);
        }
    }

    void due(String call, boolean got, boolean want) {
        due(call, got ? 1 : 0, want ? 1 : 0);
    }

    static int letters(String name) {
        int code = 0;
        for (int i = 0; i < 6; i++) {
            code = code << 5 | (i < name.length() ? name.charAt(i) - 'a' + 1 : 0);
        }
        return code;
    }

    /** Ends the test, with exit code 1 if an answer was wrong. */
    void end() {
        closeSentence();
        System.out.println(wrong == 0 ? "all answers are as due" : wrong + " answers are not as due");
        if (wrong != 0) {
            System.exit(1);
        }
    }
}
