import java.io.IOException;
import java.nio.file.Files;
import java.nio.file.Path;
import java.util.List;
import java.util.regex.Matcher;
import java.util.regex.Pattern;

/** What a look at the text can tell of LANGUAGE.md's rules. */
public final class LanguageTest {
    private static final String[] BARRED = {
        "\\bthrow\\b", "\\bthrows\\b", "\\btry\\b", "\\bcatch\\b", "\\bsynchronized\\b", "\\bassert\\b", "->", "::",
        "\\bpackage\\b", "\\bprotected\\b", "\\bvolatile\\b", "\\bThread\\b", "\\bRandom\\b", "Exact\\b",
        "\\bnanoTime\\b", "\\bcurrentTimeMillis\\b", "\\bdouble\\b", "\\bfloat\\b", "\\bObject\\b", "@"
    };
    private static final Pattern HEAD =
            Pattern.compile("^ +(?:public|private)(?: static| final)* [\\w\\[\\]]+(?: \\w+)?\\(([^)]*)\\) \\{$");
    private static final int MOST_METHOD_LINES = 60;
    private static final int MOST_PARAMETERS = 7;

    private final Check check = new Check();

    public static void main(String[] args) throws IOException {
        Path source = Path.of(System.getProperty("line.colours.source", "src/main/java/LineColours.java"));
        LanguageTest test = new LanguageTest();
        List<String> lines = Files.readAllLines(source);
        test.words(lines);
        test.methods(lines);
        test.check.end();
    }

    private void words(List<String> lines) {
        for (int i = 0; i < lines.size(); i++) {
            String code = lines.get(i).replaceAll("//.*|/\\*\\*.*\\*/", "");
            for (String barred : BARRED) {
                check.due("line " + (i + 1) + " has " + barred, Pattern.compile(barred).matcher(code).find(), false);
            }
            boolean imports = code.startsWith("import ");
            check.due("line " + (i + 1) + " imports", imports && !code.equals("import java.util.Arrays;"), false);
            check.due("line " + (i + 1) + " is plain", lines.get(i).chars().allMatch(c -> c < 128), true);
        }
    }

    private void methods(List<String> lines) {
        int seen = 0;
        for (int start = 0; start < lines.size(); start++) {
            Matcher head = HEAD.matcher(lines.get(start));
            if (head.matches()) {
                seen++;
                String indent = lines.get(start).replaceAll("\\S.*", "");
                int end = start;
                while (!lines.get(end).equals(indent + "}")) {
                    end++;
                }
                String name = lines.get(start).trim();
                check.due(name + " is short", end - start + 1 <= MOST_METHOD_LINES, true);
                check.due(name + " takes few", head.group(1).split(",").length <= MOST_PARAMETERS, true);
            }
        }
        check.due("methods are seen", seen > 100, true);
    }
}
