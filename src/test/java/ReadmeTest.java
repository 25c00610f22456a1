import java.io.IOException;
import java.nio.charset.StandardCharsets;
import java.nio.file.Files;
import java.nio.file.Path;
import java.util.HashSet;
import java.util.List;
import java.util.Set;
import java.util.regex.Matcher;
import java.util.regex.Pattern;

/** README.md: its calls answer the numbers behind them, every call is shown, every test is listed. */
final class ReadmeTest {
    private static final Check CHECK = new Check("ReadmeTest");
    private static final Pattern TOLD = Pattern.compile("tell\\(keys, \"([^\"]*)\"\\); *// (-?\\d+).*");
    private static final Pattern CALL = Pattern.compile("keys\\.([a-z]+\\(.*\\)); *// (-?\\d+).*");

    private static Asked keys = new Asked();

    public static void main(String[] args) throws IOException {
        List<String> lines = Files.readAllLines(Path.of("README.md"), StandardCharsets.US_ASCII);
        calls(lines);
        everyCallIsNamed(String.join("\n", lines));
        everyTestIsListed(lines);
        CHECK.end();
    }

    private static void calls(List<String> lines) {
        int made = 0;
        for (String line : lines) {
            Matcher told = TOLD.matcher(line);
            Matcher call = CALL.matcher(line);
            if (line.endsWith("keys = new ChoristerKeys();")) {
                keys = new Asked();
                made++;
            } else if (told.matches()) {
                keys.does("clear()").types(told.group(1));
                CHECK.due(line, keys.answers("city()"), Long.parseLong(told.group(2)));
            } else if (call.matches()) {
                CHECK.due(line, keys.answers(call.group(1).replace("';'", "59")), Long.parseLong(call.group(2)));
            } else {
                CHECK.holds("the line has an answer: " + line, !line.startsWith("keys.") && !line.startsWith("tell("));
            }
        }
        CHECK.due("objects", made, 2);
    }

    private static void everyCallIsNamed(String text) {
        for (String name : Calls.NAMES) {
            CHECK.holds(name + "() is shown", text.contains("keys." + name + "(") || text.contains("`" + name + "("));
        }
    }

    private static void everyTestIsListed(List<String> lines) throws IOException {
        Set<String> listed = new HashSet<>();
        for (String line : lines) {
            Matcher row = Pattern.compile("\\| (\\w+Test) \\|.*").matcher(line);
            if (row.matches()) {
                listed.add(row.group(1));
            }
        }
        Set<String> there = new HashSet<>();
        try (var files = Files.list(Path.of("src/test/java"))) {
            files.map(file -> file.getFileName().toString().replace(".java", ""))
                .filter(name -> name.endsWith("Test")).forEach(there::add);
        }
        CHECK.holds("listed " + listed + ", there are " + there, listed.equals(there));
    }
}
