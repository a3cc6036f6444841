import java.io.IOException;
import java.lang.reflect.Method;
import java.lang.reflect.Modifier;
import java.nio.charset.StandardCharsets;
import java.nio.file.Files;
import java.nio.file.Path;
import java.util.ArrayList;
import java.util.List;
import java.util.regex.Matcher;
import java.util.regex.Pattern;

/** README.md: its sample answers what is said beside it, and it tells of every call. */
public final class ReadmeTest {
    private static final Check CHECK = new Check();
    private static final Pattern ANSWER = Pattern.compile("\\s*int (\\w+) = (bridge\\..*);\\s*// (-?\\d+): .*");

    public static void main(String[] args) throws IOException {
        String readme = Files.readString(Path.of("README.md"), StandardCharsets.UTF_8);
        String self = Files.readString(Path.of("src/test/java/ReadmeTest.java"), StandardCharsets.UTF_8);
        sampleIsRun(readme, self);
        saidAnswersAreDue(readme, runSample());
        everyCallIsTold(readme);
        CHECK.done();
    }

    /** The sample's lines, as they stand in README.md but for its comments. */
    private static int[] runSample() {
        // sample
        BoatBridge bridge = new BoatBridge(5);
        bridge.cart(100, 0);
        bridge.cart(150, 2);
        int margin = bridge.worst(0);
        int gap = bridge.gap();
        bridge.ship(10);
        bridge.crosser(10);
        int waits = bridge.waits();
        int minute = bridge.opening(0, 0);
        int hasty = bridge.atOnce();
        for (int day = 0; day < 60; day++) {
            bridge.level(day, 20, day == 3 ? 60 : 40);
        }
        int days = bridge.out();
        int third = bridge.outOn(3, 0);
        bridge.feed(0x746f6c6c, 0x20312032, 0x303b6167, 0x61696e20, 0x31203330);
        bridge.feed(0x3b000000, 0, 0, 0, 0);
        bridge.end(21);
        int clauses = bridge.tolls();
        int paid = bridge.pass(1, 0, 0);
        int back = bridge.pass(1, 0, 30);
        // end of the sample
        return new int[] {margin, gap, waits, minute, hasty, days, third, clauses, paid, back};
    }

    private static List<String> codeLines(String text) {
        List<String> lines = new ArrayList<>();
        for (String line : text.split("\n")) {
            String code = line.replaceAll("//.*", "").strip();
            if (!code.isEmpty()) {
                lines.add(code);
            }
        }
        return lines;
    }

    private static String between(String text, String from, String to) {
        int start = text.indexOf(from);
        int end = text.indexOf(to, start + from.length());
        CHECK.due("'" + from + "' is there", start >= 0 && end >= 0, true);
        return start >= 0 && end >= 0 ? text.substring(start + from.length(), end) : "";
    }

    private static void sampleIsRun(String readme, String self) {
        List<String> told = codeLines(between(readme, "```java\n", "```"));
        List<String> run = codeLines(between(self, "// sample\n", "// end of the sample\n"));
        CHECK.due("the sample is as long as what is run", told.size(), run.size());
        for (int i = 0; i < Math.min(told.size(), run.size()); i++) {
            CHECK.due("the sample's line " + told.get(i), told.get(i).equals(run.get(i)), true);
        }
    }

    private static void saidAnswersAreDue(String readme, int[] answers) {
        int next = 0;
        for (String line : between(readme, "```java\n", "```").split("\n")) {
            Matcher said = ANSWER.matcher(line);
            if (said.matches() && next < answers.length) {
                CHECK.due(said.group(1) + " = " + said.group(2), answers[next], Integer.parseInt(said.group(3)));
                next++;
            }
        }
        CHECK.due("every answer is said", next, answers.length);
    }

    private static void everyCallIsTold(String readme) {
        for (Method m : BoatBridge.class.getDeclaredMethods()) {
            if (Modifier.isPublic(m.getModifiers())) {
                CHECK.due("README.md tells of " + m.getName(), readme.contains("| `" + m.getName() + "("), true);
            }
        }
    }
}
