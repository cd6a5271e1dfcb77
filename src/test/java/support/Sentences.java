import java.util.List;

/** Sentences of the document, one by one, each held to by answers of its own. */
final class Sentences {
    static final int NONE = LineColours.NONE;
    static final int LEAST = Integer.MIN_VALUE;
    static final int GREATEST = Integer.MAX_VALUE;

    private final Check check = new Check();
    private String sentence = "";
    private int said = 0;

    /**
     * The words are the document's, or say which case of its sentence is meant; what is asked from
     * here on holds the class to it.
     */
    void say(int promise, String words) {
        sentence = "promise " + promise + ", \"" + words + "\": ";
        said++;
    }

    void due(Scene scene, String call, long want) {
        check.due(sentence + call + " behind " + scene, scene.answer(call), want);
    }

    /** One call for each number from 0 on, put in place of the sign #. */
    void dueRow(Scene scene, String call, long... wants) {
        for (int i = 0; i < wants.length; i++) {
            due(scene, put(call, i), wants[i]);
        }
    }

    /** The number in place of # is one too small, one too large, the least and the greatest int. */
    void dueBeyond(Scene scene, String call, int least, int greatest, long want) {
        for (int number : new int[] {least - 1, greatest + 1, LEAST, LEAST + 1, GREATEST - 1, GREATEST}) {
            due(scene, put(call, number), want);
        }
    }

    private static String put(String call, int number) {
        return call.replace("#", Integer.toString(number));
    }

    void dueColours(Scene scene, String want) {
        String got = scene.colours();
        check.due(sentence + "colours " + got + " (due: " + want + ") behind " + scene, got.equals(want), true);
    }

    /** All other calls answer behind the one scene what they answer behind the other. */
    void dueSame(Scene one, Scene other) {
        List<String> first = Look.answers(one);
        List<String> second = Look.answers(other);
        check.due(sentence + "as many answers behind " + one + " as behind " + other, first.size(), second.size());
        for (int i = 0; i < Math.min(first.size(), second.size()); i++) {
            boolean same = first.get(i).equals(second.get(i));
            check.due(sentence + first.get(i) + " behind " + one + ", but " + second.get(i) + " behind " + other, same, true);
        }
    }

    /** The call answers so, and nothing happens. */
    void dueRefused(Scene scene, String call, long want) {
        due(scene, call, want);
        dueSame(scene, scene.then(call));
    }

    void end() {
        System.out.println(said + " sentences and cases of them");
        check.end();
    }
}
