import java.io.IOException;
import java.nio.file.Files;
import java.nio.file.Path;
import java.util.ArrayDeque;
import java.util.ArrayList;
import java.util.Deque;
import java.util.HashSet;
import java.util.LinkedHashMap;
import java.util.List;
import java.util.Map;
import java.util.Set;
import java.util.regex.Matcher;
import java.util.regex.Pattern;

/** The rules of LANGUAGE.md that only the source shows. Run from the project's directory. */
public final class SourceTest {
    private static final Path SOURCE = Path.of("src/main/java/GlobalTree.java");
    private static final Set<String> FORBIDDEN = Set.of("package", "import", "interface", "enum", "record",
        "float", "double", "null", "throw", "throws", "try", "catch", "finally", "synchronized", "assert",
        "instanceof", "protected", "var", "super", "->", "::", "\"", "@");
    private static final Set<String> NOT_A_CALL = Set.of("if", "for", "while", "switch", "return", "do", "else");
    private static final int LONGEST_METHOD = 60;
    private static final int DEEPEST_CALLS = 6;
    private static final int MOST_FIELDS = 40;
    private static final Pattern METHOD_START = Pattern.compile("    (?:public|private) (?:static )?\\w+ (\\w+)\\(.*\\{");

    private static final Checks checks = new Checks();

    public static void main(String[] args) throws IOException {
        String code = withoutComments(Files.readString(SOURCE));
        List<String> tokens = tokens(code);
        onlyPlainWords(tokens);
        noCallInsideArguments(tokens);
        arraysOnlyInFields(code);
        shortMethods(code);
        callsGoNotTooDeep(code);
        notTooManyFields(code);
        theScanFindsFaults();
        checks.end();
    }

    private static String withoutComments(String source) {
        return source.replaceAll("(?s)/\\*.*?\\*/", "").replaceAll("//[^\n]*", "");
    }

    private static List<String> tokens(String code) {
        List<String> tokens = new ArrayList<>();
        Matcher m = Pattern.compile("\\w+|->|::|\\S").matcher(code);
        while (m.find()) {
            tokens.add(m.group());
        }
        return tokens;
    }

    private static void onlyPlainWords(List<String> tokens) {
        int classes = 0;
        for (String token : tokens) {
            classes += token.equals("class") ? 1 : 0;
            checks.holds("the source is without " + token, !FORBIDDEN.contains(token));
            // A name with a small letter behind a capital one would be a class.
            boolean aClass = token.matches("[A-Z]\\w*[a-z]\\w*");
            checks.holds("no other class is named: " + token, !aClass || token.equals("GlobalTree"));
        }
        checks.due("how many classes", classes, 1);
    }

    private static List<String> callsInsideArguments(List<String> tokens) {
        Deque<Boolean> open = new ArrayDeque<>();
        List<String> found = new ArrayList<>();
        String previous = "";
        for (String token : tokens) {
            if (token.equals("(")) {
                boolean call = previous.matches("[A-Za-z_]\\w*") && !NOT_A_CALL.contains(previous);
                if (call && open.contains(true)) {
                    found.add(previous);
                }
                open.push(call);
            } else if (token.equals(")") && !open.isEmpty()) {
                open.pop();
            }
            previous = token;
        }
        return found;
    }

    private static void noCallInsideArguments(List<String> tokens) {
        List<String> found = callsInsideArguments(tokens);
        checks.holds("no call stands inside the arguments of another: " + found, found.isEmpty());
    }

    private static void arraysOnlyInFields(String code) {
        for (String line : code.split("\n")) {
            boolean field = line.matches("    private final \\w+\\[\\] \\w+ = new \\w+\\[\\w+\\];");
            checks.holds("new stands in a field's initialiser: " + line, field || !line.matches(".*\\bnew\\b.*"));
        }
    }

    private static void shortMethods(String code) {
        int length = 0;
        for (String line : code.split("\n")) {
            boolean starts = line.matches("    (public|private) .*\\{");
            length = starts ? 1 : length + 1;
            boolean ends = line.equals("    }");
            checks.holds("a method has at most sixty lines", !ends || length <= LONGEST_METHOD);
        }
    }

    /** The methods by name, each with those that it calls. */
    private static Map<String, Set<String>> calls(String code) {
        Map<String, Set<String>> calls = new LinkedHashMap<>();
        String method = "";
        for (String line : code.split("\n")) {
            Matcher start = METHOD_START.matcher(line);
            if (start.matches()) {
                method = start.group(1);
                calls.put(method, new HashSet<>());
            } else if (calls.containsKey(method)) {
                Matcher call = Pattern.compile("(\\w+)\\(").matcher(line);
                while (call.find()) {
                    calls.get(method).add(call.group(1));
                }
            }
        }
        calls.values().forEach(called -> called.retainAll(calls.keySet()));
        return calls;
    }

    /** How many methods the longest way of calls has; more than there are methods if some call comes back. */
    private static int deepest(Map<String, Set<String>> calls) {
        int deepest = 0;
        Set<String> reached = calls.keySet();
        while (!reached.isEmpty() && deepest <= calls.size()) {
            deepest++;
            Set<String> further = new HashSet<>();
            reached.forEach(method -> further.addAll(calls.get(method)));
            reached = further;
        }
        return deepest;
    }

    private static void callsGoNotTooDeep(String code) {
        Map<String, Set<String>> calls = calls(code);
        int deepest = deepest(calls);
        checks.holds("fifteen public methods and some private ones are seen", calls.size() > 15);
        checks.holds("no recursion, and calls at most six deep, not " + deepest, deepest <= DEEPEST_CALLS);
    }

    private static void notTooManyFields(String code) {
        Pattern field = Pattern.compile("(?m)^    private (?!static)[^(\n]*;$");
        long fields = field.matcher(code).results().count();
        checks.holds("fields are seen", fields > 0);
        checks.holds("at most some forty fields, not " + fields, fields <= MOST_FIELDS);
    }

    /** Else a scan that sees nothing would pass for a source without faults. */
    private static void theScanFindsFaults() {
        checks.due("a nested call is found", nestedCalls("x = f(a + g(b));"), 1);
        checks.due("one in a bracket is found", nestedCalls("f((a + g(b)) * 2);"), 1);
        checks.due("calls side by side are none", nestedCalls("if (f(a) < g(b)) { f(c); }"), 0);
        String two = "    private int f(int a) {\n        return g(a);\n    }\n    private int g(int a) {\n";
        checks.due("a way of two", deepest(calls(two + "        return a;\n    }\n")), 2);
        checks.due("one that comes back", deepest(calls(two + "        return f(a);\n    }\n")), 3);
    }

    private static int nestedCalls(String code) {
        return callsInsideArguments(tokens(code)).size();
    }
}
