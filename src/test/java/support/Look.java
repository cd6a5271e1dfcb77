import java.util.ArrayList;
import java.util.List;

/** All that can be asked behind a scene: two scenes that answer alike here are in one state. */
final class Look {
    private static final int CALLS_AN_OBJECT = 350;

    private final Scene scene;
    private final int posts;
    private final int lines;
    private final int degree;
    private final List<String> questions = new ArrayList<>();

    private Look(Scene scene) {
        this.scene = scene;
        posts = (int) scene.answer("count 0");
        lines = (int) scene.answer("count 1");
        degree = (int) scene.answer("count 2");
    }

    /** The calls that tell something and change nothing, with numbers within their bounds and beyond. */
    static List<String> questions(Scene scene) {
        Look look = new Look(scene);
        look.askOfOneNumber();
        look.askOfLines();
        look.askOfPosts();
        look.askOfColours();
        return look.questions;
    }

    static List<String> answers(Scene scene) {
        List<String> told = new ArrayList<>();
        LineColours x = scene.play();
        int asked = 0;
        for (String question : questions(scene)) {
            if (asked == CALLS_AN_OBJECT) {
                x = scene.play();
                asked = 0;
            }
            told.add(question + " = " + Scene.ask(x, question));
            asked++;
        }
        new Look(scene).tryChanges(told);
        return told;
    }

    private void askOfOneNumber() {
        String[] names = {"count", "unlike", "grown", "idle", "calmer", "overfull", "longest", "sets", "kinds",
            "turns", "sides", "apart", "ways"};
        for (String name : names) {
            for (int number = -2; number <= 10; number++) {
                questions.add(name + " " + number);
            }
        }
        questions.add("index");
        questions.add("critical");
        for (int k = -1; k <= 10; k++) {
            for (int what = -1; what <= 2; what++) {
                questions.add("refused " + k + " " + what);
            }
        }
    }

    private void askOfLines() {
        for (int line = -1; line <= lines; line++) {
            questions.add("free " + line);
            questions.add("listed " + line);
            for (int what = -1; what <= 4; what++) {
                questions.add("of " + line + " " + what);
            }
            for (int colour = -1; colour <= degree + 1; colour++) {
                questions.add("clash " + line + " " + colour);
            }
            for (int k = -1; k <= 10; k++) {
                questions.add("first " + k + " " + line);
            }
            for (int post = -1; post <= posts; post++) {
                for (int i = -2; i <= 3; i++) {
                    questions.add("fan " + line + " " + post + " " + i);
                }
            }
        }
    }

    private void askOfPosts() {
        for (int post = -1; post <= posts; post++) {
            for (int what = -1; what <= 4; what++) {
                questions.add("post " + post + " " + what);
            }
            for (int one = 0; one <= degree; one++) {
                for (int other = 0; other <= degree + 1; other++) {
                    for (int what = 0; what <= 4; what++) {
                        questions.add("chain " + post + " " + one + " " + other + " " + what);
                    }
                }
            }
        }
    }

    private void askOfColours() {
        for (int one = -1; one <= degree + 1; one++) {
            for (int what = -1; what <= 3; what++) {
                questions.add("colour " + one + " " + what);
            }
            for (int other = -1; other <= degree + 1; other++) {
                questions.add("chains " + one + " " + other);
            }
        }
    }

    /** Calls that change something, each on an object of its own: what they answer and what comes of them. */
    private void tryChanges(List<String> told) {
        String[] calls = {"back", "growAll", "pair", "even", "keep; back", "take " + degree, "take " + (degree + 1),
            "turn 0 0 1", "swap 0 1", "growAll; grown 0", "growAll; grown 4", "pair; unlike 0"};
        for (String call : calls) {
            tryChange(call, told);
        }
        for (int line = 0; line < lines; line++) {
            tryChange("list " + line + " 0", told);
            tryChange("bare " + line, told);
            tryChange("grow " + line, told);
            tryChange("paint " + line + " 0", told);
        }
        for (int a = 0; a < posts; a++) {
            for (int b = 0; b < posts; b++) {
                tryChange("line " + a + " " + b, told);
            }
        }
    }

    private void tryChange(String calls, List<String> told) {
        int last = calls.lastIndexOf(';');
        Scene before = last < 0 ? scene : scene.then(calls.substring(0, last));
        String call = calls.substring(last + 1).trim();
        told.add(calls + " = " + before.answer(call) + ", colours " + before.then(call).colours());
    }
}
