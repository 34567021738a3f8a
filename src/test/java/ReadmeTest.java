import java.io.ByteArrayOutputStream;
import java.io.IOException;
import java.io.PrintStream;
import java.lang.reflect.Method;
import java.lang.reflect.Modifier;
import java.nio.file.Files;
import java.nio.file.Path;

/** README.md says how to use the class: its example must be the one that is run, print what it says, and no call be left out. */
public final class ReadmeTest {
    private static final Probe PROBE = new Probe();

    public static void main(String[] args) throws IOException {
        String readme = Files.readString(Path.of("README.md"));
        String example = Files.readString(Path.of("src", "test", "java", "Example.java"));
        PROBE.due("the example of README.md is Example.java", block(readme, "java").equals(example), true);
        PROBE.due("what the example prints stands in README.md", printed().equals(block(readme, "text")), true);
        for (Method method : TuskLedger.class.getDeclaredMethods()) {
            if (Modifier.isPublic(method.getModifiers())) {
                String call = "`" + method.getName() + "(";
                PROBE.due("README.md tells of " + call, readme.contains(call), true);
            }
        }
        PROBE.due("README.md tells how to run the tests", readme.contains("`.ci/run`"), true);
        dueTestsTold(readme);
        PROBE.end();
    }

    /** What stands between the first line ```kind and the next ```. */
    private static String block(String readme, String kind) {
        String open = "```" + kind + "\n";
        int from = readme.indexOf(open);
        int to = from < 0 ? -1 : readme.indexOf("```", from + open.length());
        return to < 0 ? "" : readme.substring(from + open.length(), to);
    }

    private static String printed() {
        PrintStream old = System.out;
        ByteArrayOutputStream bytes = new ByteArrayOutputStream();
        System.setOut(new PrintStream(bytes, true));
        Example.main(new String[0]);
        System.setOut(old);
        return bytes.toString().replace(System.lineSeparator(), "\n");
    }

    private static void dueTestsTold(String readme) {
        String[] files = Path.of("src", "test", "java").toFile().list();
        PROBE.due("there are tests", files != null && files.length > 0, true);
        for (String file : files == null ? new String[0] : files) {
            if (file.endsWith("Test.java")) {
                String test = "`" + file.replace(".java", "") + "`";
                PROBE.due("README.md tells of the test " + test, readme.contains(test), true);
            }
        }
    }
}
