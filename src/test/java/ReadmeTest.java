import java.io.IOException;
import java.nio.file.Files;
import java.nio.file.Path;
import java.util.List;
import java.util.regex.Matcher;
import java.util.regex.Pattern;

/** What README.md shows as answers is what the class answers. */
public final class ReadmeTest {
    private static final Pattern CALL = Pattern.compile("net\\.(\\w+)\\(([^)]*)\\); +// (NONE|true|false|-?\\d+)(:? .*)?");
    private static final String MAKING = "LineColours net = new LineColours();";
    private static final int LEAST_CALLS = 50;

    private final Check check = new Check();
    private LineColours net = null;

    public static void main(String[] args) throws IOException {
        ReadmeTest test = new ReadmeTest();
        List<String> lines = Files.readAllLines(Path.of(System.getProperty("line.colours.readme", "README.md")));
        test.calls(lines);
        test.names(String.join("\n", lines));
        test.check.end();
    }

    private void calls(List<String> lines) {
        boolean code = false;
        int played = 0;
        for (String line : lines) {
            if (line.startsWith("```")) {
                code = line.equals("```java");
            } else if (code && line.equals(MAKING)) {
                net = new LineColours();
            } else if (code) {
                play(line);
                played++;
            }
        }
        check.due("calls are shown", played >= LEAST_CALLS, true);
    }

    private void play(String line) {
        Matcher shown = CALL.matcher(line);
        if (net == null || !shown.matches()) {
            check.fail("no call with its answer on an object that was made: " + line);
            return;
        }
        String told = shown.group(2).replace("LineColours.NONE", Integer.toString(LineColours.NONE));
        String[] words = told.isBlank() ? new String[0] : told.split(", *");
        int[] numbers = new int[words.length];
        for (int i = 0; i < words.length; i++) {
            numbers[i] = Integer.parseInt(words[i].trim());
        }
        check.due(line, Calls.onReal(net, shown.group(1), numbers), answer(shown.group(3)));
    }

    private static long answer(String told) {
        switch (told) {
            case "NONE": return LineColours.NONE;
            case "true": return 1;
            case "false": return 0;
            default: return Long.parseLong(told);
        }
    }

    private void names(String text) {
        for (java.lang.reflect.Method method : LineColours.class.getMethods()) {
            if (method.getDeclaringClass() == LineColours.class) {
                check.due(method.getName() + " is named", text.contains("`" + method.getName() + "`"), true);
            }
        }
    }
}
