import java.util.ArrayList;
import java.util.List;

/**
 * A run of calls, told as text ("begin 3; line 0 1"), that is played anew on a fresh object for each
 * question: no question can spoil the next one, and no object comes near its 512th call.
 */
final class Scene {
    static final Scene NEW = new Scene(new ArrayList<>());

    private final List<String> calls;

    private Scene(List<String> calls) {
        this.calls = calls;
    }

    static Scene of(String told) {
        return NEW.then(told);
    }

    /** Lines between the posts that stand beside each other, in pairs. */
    static Scene net(int posts, int... ends) {
        StringBuilder told = new StringBuilder("begin " + posts);
        for (int i = 0; i + 1 < ends.length; i += 2) {
            told.append("; line ").append(ends[i]).append(' ').append(ends[i + 1]);
        }
        return of(told.toString());
    }

    static Scene path(int posts) {
        Scene scene = net(posts);
        for (int post = 1; post < posts; post++) {
            scene = scene.then("line " + (post - 1) + " " + post);
        }
        return scene;
    }

    static Scene round(int posts) {
        return path(posts).then("line " + (posts - 1) + " 0");
    }

    static Scene star(int rays) {
        Scene scene = net(rays + 1);
        for (int post = 1; post <= rays; post++) {
            scene = scene.then("line 0 " + post);
        }
        return scene;
    }

    /** The first lines of the network in which all posts are joined. */
    static Scene full(int posts, int lines) {
        Scene scene = net(posts);
        int laid = 0;
        for (int a = 0; a < posts; a++) {
            for (int b = a + 1; b < posts && laid < lines; b++) {
                scene = scene.then("line " + a + " " + b);
                laid++;
            }
        }
        return scene;
    }

    Scene then(String told) {
        List<String> longer = new ArrayList<>(calls);
        for (String call : told.split(";")) {
            if (!call.isBlank()) {
                longer.add(call.trim());
            }
        }
        return new Scene(longer);
    }

    /** Line by line a digit for a colour, a point for a line that is left as it is. */
    Scene painted(String colours) {
        Scene scene = this;
        for (int line = 0; line < colours.length(); line++) {
            if (colours.charAt(line) != '.') {
                scene = scene.then("paint " + line + " " + colours.charAt(line));
            }
        }
        return scene;
    }

    LineColours play() {
        LineColours x = new LineColours();
        for (String call : calls) {
            ask(x, call);
        }
        return x;
    }

    long answer(String call) {
        return ask(play(), call);
    }

    /** The colours of all lines, a digit each, a point for none. */
    String colours() {
        LineColours x = play();
        StringBuilder told = new StringBuilder();
        int lines = x.count(1);
        for (int line = 0; line < lines; line++) {
            int colour = x.of(line, 2);
            told.append(colour < 0 ? "." : Integer.toString(colour));
        }
        return told.toString();
    }

    static long ask(LineColours x, String call) {
        String[] words = call.split(" +");
        int[] numbers = new int[words.length - 1];
        for (int i = 0; i < numbers.length; i++) {
            numbers[i] = Integer.parseInt(words[i + 1]);
        }
        return Calls.onReal(x, words[0], numbers);
    }

    @Override
    public String toString() {
        return calls.isEmpty() ? "nothing" : String.join("; ", calls);
    }
}
