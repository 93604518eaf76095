import java.io.File;
import java.io.IOException;
import java.nio.file.Files;
import java.nio.file.Path;
import java.util.HashMap;
import java.util.List;
import java.util.Map;
import java.util.regex.Matcher;
import java.util.regex.Pattern;

/** What README.md shows is so: each answer of its example, its refusals, and the tests that it names. */
public final class ReadmeTest {
    private static final Pattern CALL =
        Pattern.compile("(?:int (\\w+) = )?table\\.(\\w+)\\((.*?)\\); +// (-?\\d+)(?:: .*)?");
    private static final Pattern FEED =
        Pattern.compile("for \\(char letter : \"(.*)\"\\.toCharArray\\(\\)\\) table\\.feed\\(letter\\);");
    private static final Pattern TEST_NAME = Pattern.compile("`(\\w+Test)`");
    private static final int LEAST_CALLS = 30;
    private static final Due DUE = new Due("ReadmeTest");

    private static final KitchenTable TABLE = new KitchenTable();
    private static final Map<String, Integer> NAMES = new HashMap<>();
    private static int calls = 0;

    public static void main(String[] args) throws IOException {
        List<String> lines = Files.readAllLines(Path.of("README.md"));
        NAMES.put("KitchenTable.NONE", KitchenTable.NONE);
        example(lines);
        DUE.holds("the example has so many calls: " + calls, calls >= LEAST_CALLS);
        refusals(lines);
        tests(lines);
        DUE.end();
    }

    private static void example(List<String> lines) {
        boolean inside = false;
        for (String line : lines) {
            if (line.startsWith("```")) {
                inside = line.equals("```java");
            } else if (inside) {
                exampleLine(line);
            }
        }
    }

    private static void exampleLine(String line) {
        Matcher call = CALL.matcher(line);
        Matcher feed = FEED.matcher(line);
        if (call.matches()) {
            ask(call, line);
        } else if (feed.matches()) {
            for (char letter : feed.group(1).toCharArray()) {
                TABLE.feed(letter);
            }
        } else {
            DUE.holds("a line that is understood: " + line, line.isEmpty() || line.startsWith("//")
                || line.equals("KitchenTable table = new KitchenTable();"));
        }
    }

    private static void ask(Matcher call, String line) {
        String[] shown = call.group(3).isEmpty() ? new String[0] : call.group(3).split(", ");
        int[] args = new int[shown.length];
        for (int i = 0; i < shown.length; i++) {
            args[i] = NAMES.containsKey(shown[i]) ? NAMES.get(shown[i]) : Integer.parseInt(shown[i]);
        }
        long answer = Calls.answer(TABLE, call.group(2), args);
        calls++;
        DUE.is(line, answer, Long.parseLong(call.group(4)));
        if (call.group(1) != null) {
            NAMES.put(call.group(1), (int) answer);
        }
    }

    private static void refusals(List<String> lines) {
        DUE.holds("BAD", shows(lines, "| `BAD` (" + KitchenTable.BAD + ") |"));
        DUE.holds("STATE", shows(lines, "| `STATE` (" + KitchenTable.STATE + ") |"));
        DUE.holds("FULL", shows(lines, "| `FULL` (" + KitchenTable.FULL + ") |"));
        DUE.holds("NONE", shows(lines, "`NONE` (" + KitchenTable.NONE + ") "));
    }

    private static boolean shows(List<String> lines, String start) {
        return lines.stream().anyMatch(line -> line.startsWith(start));
    }

    private static void tests(List<String> lines) {
        File folder = new File("src/test/java");
        String all = String.join("\n", lines);
        for (File file : folder.listFiles()) {
            String name = file.getName().replace(".java", "");
            DUE.holds("it names " + name, !name.endsWith("Test") || all.contains("`" + name + "`"));
        }
        Matcher named = TEST_NAME.matcher(all);
        while (named.find()) {
            DUE.holds("there is " + named.group(1), new File(folder, named.group(1) + ".java").isFile());
        }
    }
}
