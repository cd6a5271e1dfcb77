import java.util.ArrayList;
import java.util.List;

/** What a call that is not refused changes, and what it leaves as it was. */
public final class ChangesTest {
    private static final int NONE = Sentences.NONE;
    private static final String WAS_KEPT = "0.1104";
    private static final String NOW = "102104";
    /** Six lines with sides and lists of their own; kept is another colouring than now; no number of grown() is 0. */
    private static final Scene RICH = Scene.net(7, 3, 0, 4, 3, 2, 3, 4, 5, 6, 5, 6, 3).painted(WAS_KEPT)
            .then("list 0 6; list 2 9; list 5 500; keep; grow 1");

    private final Sentences doc = new Sentences();

    public static void main(String[] args) {
        ChangesTest test = new ChangesTest();
        test.richScene();
        test.byHand();
        test.grown();
        test.all();
        test.kept();
        test.keptByKeepAlone();
        test.list();
        test.line();
        test.begin();
        test.doc.end();
    }

    private void richScene() {
        doc.say(15, "the scene that what follows is held against");
        doc.dueColours(RICH, NOW);
        doc.dueColours(RICH.then("back"), WAS_KEPT);
        doc.dueRow(RICH, "grown #", 2, 1, 4, 1, 1, NONE);
        doc.dueRow(RICH, "list # 0", 6, 511, 9, 511, 511, 500, NONE);
    }

    private void byHand() {
        doc.say(4, "A LINE has a COLOUR (in place of its own), and nothing else happens");
        dueChange("paint 1 3", 1, "132104");
        doc.say(5, "A LINE has no COLOUR any more, and nothing else happens");
        dueChange("bare 3", 1, "102.04");
        doc.say(6, "A CHAIN is TURNED, and nothing else happens");
        dueChange("turn 4 0 1", 4, "012014");
        doc.say(7, "Two COLOURS are SWAPPED, and nothing else happens");
        dueChange("swap 4 0", 3, "142140");
        dueChange("swap 3 2", 1, "103104");
    }

    private void grown() {
        Scene bared = RICH.then("bare 4");
        doc.say(8, "A LINE is GROWN, and nothing but COLOURS and what was GROWN last is another");
        doc.due(bared, "grow 4", 2);
        doc.dueColours(bared.then("grow 4"), "102124");
        doc.dueRow(bared.then("grow 4"), "grown #", 0, 2, 2, 0, 0, NONE);
        dueLeft(bared, "grow 4", network(bared), lists(bared), keptOnes(bared));
        doc.say(9, "ALL GROWN, and nothing but COLOURS and what was GROWN last is another");
        doc.due(bared, "growAll", 1);
        doc.dueColours(bared.then("growAll"), "102124");
        doc.dueRow(bared.then("growAll"), "grown #", 0, 2, 2, 0, 0, NONE);
        dueLeft(bared, "growAll", network(bared), lists(bared), keptOnes(bared));
        doc.say(9, "ALL GROWN, where all have a COLOUR: nothing happens");
        dueChange("growAll", 0, NOW);
    }

    private void all() {
        doc.say(10, "PAIRED, and nothing but COLOURS is another");
        dueChange("pair", 6, "012013");
        doc.say(11, "EVEN, and nothing but COLOURS is another");
        dueChange("even", 1, "132104");
        doc.say(12, "All LINES are as in the FIRST by k, and nothing but COLOURS is another");
        dueChange("take 4", 1, "012013");
        doc.say(14, "LINES are as in what is KEPT, and nothing but COLOURS is another: it is KEPT still");
        dueChange("back", 3, WAS_KEPT);
    }

    private void kept() {
        doc.say(13, "The colouring is KEPT in place of the one ahead, and nothing else happens");
        doc.due(RICH, "keep", 1);
        doc.dueColours(RICH.then("keep"), NOW);
        doc.dueColours(RICH.then("keep; pair; back"), NOW);
        dueLeft(RICH, "keep", network(RICH), lists(RICH), grownOnes());
    }

    private void keptByKeepAlone() {
        Scene unkept = Scene.round(4).painted("01..").then("grow 2");
        doc.say(13, "nothing is KEPT but by keep()");
        for (String call : new String[] {"line 0 2", "line 0 1", "paint 3 1", "paint 3 9", "bare 0", "bare 3", "turn 1 0 1",
            "turn 1 0 0", "swap 0 2", "swap 0 0", "grow 3", "grow 0", "growAll", "pair", "line 0 2; pair", "even", "take 2",
            "take 1", "back", "list 0 3", "list 0 512", "begin 4", "begin 10"}) {
            doc.due(unkept.then(call), "count 6", 0);
            doc.due(unkept.then(call), "unlike 0", -2);
            doc.due(unkept.then(call), "back", NONE);
        }
        for (String question : Look.questions(unkept)) {
            doc.due(unkept.then(question), "count 6", 0);
        }
    }

    private void list() {
        doc.say(28, "A LINE's LIST, and nothing else happens");
        doc.due(RICH, "list 2 64", 9);
        doc.dueColours(RICH.then("list 2 64"), NOW);
        doc.dueRow(RICH.then("list 2 64"), "list # 0", 6, 511, 64, 511, 511, 500, NONE);
        dueLeft(RICH, "list 2 64", network(RICH), grownOnes(), keptOnes(RICH));
    }

    private void line() {
        Scene longer = RICH.then("line 1 0");
        doc.say(3, "A LINE comes, and what others have, LISTS, KEPT and GROWN are as they were");
        doc.due(RICH, "line 1 0", 6);
        doc.dueColours(longer, NOW + ".");
        doc.dueColours(longer.then("back"), WAS_KEPT + ".");
        doc.dueRow(longer, "list # 0", 6, 511, 9, 511, 511, 500, 511, NONE);
        doc.due(longer, "count 0", 7);
        doc.due(longer, "unlike 0", 3);
        dueLeft(RICH, "line 1 0", grownOnes());
    }

    private void begin() {
        doc.say(2, "All begins anew with n POSTS: as if nothing had been");
        doc.dueSame(RICH.then("begin 7"), Scene.net(7));
        doc.dueSame(RICH.then("begin 7; line 3 4; line 3 0"), Scene.net(7, 3, 4, 3, 0));
        doc.dueSame(RICH.then("begin 7; line 3 4; line 3 0; keep; growAll"), Scene.net(7, 3, 4, 3, 0).then("keep; growAll"));
    }

    private void dueChange(String call, long want, String colours) {
        doc.due(RICH, call, want);
        doc.dueColours(RICH.then(call), colours);
        dueLeft(RICH, call, network(RICH), lists(RICH), grownOnes(), keptOnes(RICH));
    }

    @SafeVarargs
    private void dueLeft(Scene scene, String call, List<String>... parts) {
        for (List<String> part : parts) {
            for (String question : part) {
                int last = question.lastIndexOf(';');
                String ahead = last < 0 ? "" : question.substring(0, last);
                String asked = question.substring(last + 1).trim();
                doc.due(scene.then(call).then(ahead), asked, scene.then(ahead).answer(asked));
            }
        }
    }

    /** What posts and lines alone make, whatever colours lines have. */
    private static List<String> network(Scene scene) {
        List<String> asked = new ArrayList<>(List.of("count 0", "count 1", "count 2", "index", "critical"));
        long lines = scene.answer("count 1");
        for (int number = 0; number < 10; number++) {
            asked.add("refused " + number + " 0");
            asked.add("refused " + number + " 1");
            asked.add("ways " + number);
            for (String name : new String[] {"overfull", "sets", "kinds", "sides", "apart"}) {
                asked.add(name + " " + number);
            }
            for (int line = 0; line < lines; line++) {
                asked.add("first " + number + " " + line);
            }
        }
        for (int line = 0; line < lines; line++) {
            asked.add("of " + line + " 0");
            asked.add("of " + line + " 1");
            asked.add("of " + line + " 3");
        }
        return asked;
    }

    private static List<String> lists(Scene scene) {
        List<String> asked = new ArrayList<>();
        for (int line = 0; line < scene.answer("count 1"); line++) {
            asked.add("list " + line + " 0");
            asked.add("listed " + line);
        }
        return asked;
    }

    private static List<String> grownOnes() {
        return List.of("grown 0", "grown 1", "grown 2", "grown 3", "grown 4");
    }

    private static List<String> keptOnes(Scene scene) {
        List<String> asked = new ArrayList<>(List.of("count 6"));
        for (int line = 0; line < scene.answer("count 1"); line++) {
            asked.add("back; of " + line + " 2");
        }
        return asked;
    }
}
