import java.io.IOException;
import java.nio.file.Files;
import java.nio.file.Path;
import java.util.ArrayList;
import java.util.List;
import java.util.Map;
import java.util.regex.Matcher;
import java.util.regex.Pattern;
import java.util.stream.Stream;

/** README.md tells the truth: its examples answer what it says, and nothing of the face or of the tests is left out. */
public final class ReadmeTest {
    private static final Path README = Path.of("README.md");
    private static final Path TESTS = Path.of("src/test/java");
    private static final Pattern NEW_TREE = Pattern.compile("GlobalTree tree = new GlobalTree\\(\\);.*");
    private static final Pattern EXAMPLE = Pattern.compile("tree\\.(\\w+)\\((-?\\d*)\\);\\s*// (-?\\w+).*");
    private static final Map<String, Integer> CONSTANTS = Map.of("BAD_SUBSCRIPT", GlobalTree.BAD_SUBSCRIPT,
        "FULL", GlobalTree.FULL, "NO_NODE", GlobalTree.NO_NODE, "NOTHING", GlobalTree.NOTHING);
    /** What the document lets each call answer beside its ordinary answers. */
    private static final Map<String, List<String>> REFUSALS = Map.of(
        "down", List.of("BAD_SUBSCRIPT", "FULL"),
        "up", List.of("NO_NODE"),
        "turn", List.of("NO_NODE", "BAD_SUBSCRIPT"),
        "set", List.of("NO_NODE", "FULL"),
        "increment", List.of("NO_NODE", "FULL"),
        "merge", List.of("NO_NODE", "BAD_SUBSCRIPT", "FULL"),
        "next", List.of("NOTHING"),
        "previous", List.of("NOTHING"),
        "first", List.of("NOTHING"));

    private static final Checks checks = new Checks();

    public static void main(String[] args) throws IOException {
        List<String> lines = Files.readAllLines(README);
        examplesAnswerAsSaid(lines);
        everyCallHasARow(lines);
        everyConstantIsTold(lines);
        everyTestIsTold(lines);
        checks.end();
    }

    private static int number(String word) {
        return CONSTANTS.containsKey(word) ? CONSTANTS.get(word) : Integer.parseInt(word);
    }

    private static void examplesAnswerAsSaid(List<String> lines) {
        GlobalTree tree = null;
        int examples = 0;
        for (String line : lines) {
            Matcher m = EXAMPLE.matcher(line);
            if (NEW_TREE.matcher(line).matches()) {
                tree = new GlobalTree();
            } else if (m.matches()) {
                examples++;
                int argument = m.group(2).isEmpty() ? 0 : Integer.parseInt(m.group(2));
                int got = Calls.ask(tree, Calls.numberOf(m.group(1)), argument);
                checks.due("the example " + line, got, number(m.group(3)));
            } else {
                checks.holds("an example of this form: " + line, !line.startsWith("tree."));
            }
        }
        checks.holds("there are examples", examples > 0);
    }

    private static List<String> rowsOf(List<String> lines, String name) {
        return lines.stream().filter(line -> line.matches("\\| `" + name + "\\(\\w*\\)` \\|.*")).toList();
    }

    private static void everyCallHasARow(List<String> lines) {
        for (String name : Calls.NAMES) {
            List<String> rows = rowsOf(lines, name);
            checks.due("rows of the call " + name, rows.size(), 1);
            for (String row : rows) {
                checks.same("the refusals in the row of " + name, constantsIn(row).toString(),
                    REFUSALS.getOrDefault(name, List.of()).toString());
            }
        }
    }

    /** In the order in which they stand: it is the order in which they are tested. */
    private static List<String> constantsIn(String row) {
        List<String> found = new ArrayList<>();
        Matcher m = Pattern.compile("`([A-Z_]+)`").matcher(row);
        while (m.find()) {
            found.add(m.group(1));
        }
        return found;
    }

    private static void everyConstantIsTold(List<String> lines) {
        CONSTANTS.forEach((name, value) -> {
            String row = "| `" + name + "` | " + value + " |";
            checks.holds("a row that begins with " + row, lines.stream().anyMatch(line -> line.startsWith(row)));
        });
    }

    private static void everyTestIsTold(List<String> lines) throws IOException {
        try (Stream<Path> files = Files.list(TESTS)) {
            List<String> names = files.map(file -> file.getFileName().toString())
                .filter(file -> file.endsWith("Test.java"))
                .map(file -> file.substring(0, file.length() - ".java".length())).toList();
            for (String name : names) {
                checks.holds("a row for the test " + name,
                    lines.stream().anyMatch(line -> line.startsWith("| `" + name + "` |")));
            }
        }
    }
}
