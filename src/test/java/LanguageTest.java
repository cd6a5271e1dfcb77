import java.io.IOException;
import java.nio.file.Files;
import java.nio.file.Path;
import java.util.HashMap;
import java.util.HashSet;
import java.util.List;
import java.util.Map;
import java.util.Set;
import java.util.TreeMap;
import java.util.regex.Matcher;
import java.util.regex.Pattern;

/** What a look at the text can tell of LANGUAGE.md's rules. */
public final class LanguageTest {
    private static final String[] BARRED = {
        "\\bthrow\\b", "\\bthrows\\b", "\\btry\\b", "\\bcatch\\b", "\\bsynchronized\\b", "\\bassert\\b", "->", "::",
        "\\bpackage\\b", "\\bprotected\\b", "\\bvolatile\\b", "\\bThread\\b", "\\bRandom\\b", "Exact\\b",
        "\\bnanoTime\\b", "\\bcurrentTimeMillis\\b", "\\bdouble\\b", "\\bfloat\\b", "\\bObject\\b", "@",
        "new \\w+\\([^)]*\\) \\{"
    };
    private static final Pattern HEAD =
            Pattern.compile("^ +(?:public|private)(?: static| final)* [\\w\\[\\]]+(?: (\\w+))?\\(([^)]*)\\) \\{$");
    private static final Pattern CALL = Pattern.compile("\\b(\\w+)\\(");
    private static final int MOST_METHOD_LINES = 60;
    private static final int MOST_PARAMETERS = 7;
    private static final int MOST_CALLS_DEEP = 8;

    private final Check check = new Check();
    /** For each method's name those that it calls; methods of one name are taken for one. */
    private final Map<String, Set<String>> calls = new TreeMap<>();
    private final Map<String, Integer> depths = new HashMap<>();

    public static void main(String[] args) throws IOException {
        Path source = Path.of(System.getProperty("line.colours.source", "src/main/java/LineColours.java"));
        LanguageTest test = new LanguageTest();
        List<String> lines = Files.readAllLines(source);
        test.words(lines);
        test.methods(lines);
        test.depth();
        test.check.end();
    }

    private void words(List<String> lines) {
        for (int i = 0; i < lines.size(); i++) {
            String code = bareOfComments(lines.get(i));
            for (String barred : BARRED) {
                check.due("line " + (i + 1) + " has " + barred, Pattern.compile(barred).matcher(code).find(), false);
            }
            boolean imports = code.startsWith("import ");
            check.due("line " + (i + 1) + " imports", imports && !code.equals("import java.util.Arrays;"), false);
            check.due("line " + (i + 1) + " is plain", lines.get(i).chars().allMatch(c -> c < 128), true);
        }
    }

    private static String bareOfComments(String line) {
        return line.replaceAll("//.*|/\\*\\*.*\\*/", "");
    }

    private void methods(List<String> lines) {
        int seen = 0;
        for (int start = 0; start < lines.size(); start++) {
            Matcher head = HEAD.matcher(lines.get(start));
            if (head.matches()) {
                seen++;
                String indent = lines.get(start).replaceAll("\\S.*", "");
                int end = start;
                while (!lines.get(end).equals(indent + "}")) {
                    end++;
                }
                String name = lines.get(start).trim();
                check.due(name + " is short", end - start + 1 <= MOST_METHOD_LINES, true);
                check.due(name + " takes few", head.group(2).split(",").length <= MOST_PARAMETERS, true);
                if (head.group(1) != null) {
                    gatherCalls(head.group(1), lines.subList(start + 1, end));
                }
            }
        }
        check.due("methods are seen", seen > 100, true);
    }

    private void gatherCalls(String name, List<String> body) {
        Set<String> called = calls.computeIfAbsent(name, key -> new HashSet<>());
        for (String line : body) {
            Matcher call = CALL.matcher(bareOfComments(line));
            while (call.find()) {
                called.add(call.group(1));
            }
        }
    }

    private void depth() {
        for (String name : calls.keySet()) {
            check.due("calls go eight deep at most from " + name, depthOf(name) <= MOST_CALLS_DEEP, true);
        }
        check.due("the depth is seen", depthOf("take") > 4, true);
    }

    /** Methods that call one another count as one call: the rule is about calls that are no recursion. */
    private int depthOf(String name) {
        Integer known = depths.get(name);
        if (known != null) {
            return known;
        }
        Set<String> group = new HashSet<>(Set.of(name));
        for (String other : reached(name)) {
            if (reached(other).contains(name)) {
                group.add(other);
            }
        }
        int deepest = 0;
        for (String member : group) {
            for (String called : calls.get(member)) {
                if (calls.containsKey(called) && !group.contains(called)) {
                    deepest = Math.max(deepest, depthOf(called));
                }
            }
        }
        depths.put(name, deepest + 1);
        return deepest + 1;
    }

    private Set<String> reached(String from) {
        Set<String> found = new HashSet<>();
        reach(from, found);
        return found;
    }

    private void reach(String from, Set<String> found) {
        for (String called : calls.get(from)) {
            if (calls.containsKey(called) && found.add(called)) {
                reach(called, found);
            }
        }
    }
}
