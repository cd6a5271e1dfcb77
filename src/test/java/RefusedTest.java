/** Calls that are refused: nothing happens, all other calls answer behind them what they answered ahead. */
public final class RefusedTest {
    private static final int NONE = Sentences.NONE;
    private static final int LEAST = Sentences.LEAST;
    private static final int GREATEST = Sentences.GREATEST;
    /** An odd round; some lines have colours, one was grown, something is kept, lists differ, a line came since. */
    private static final Scene ODD = Scene.net(6, 0, 1, 1, 2, 2, 0, 2, 3, 3, 4).painted("01.2.")
            .then("list 0 6; list 3 9; keep; grow 4; turn 0 0 1; line 4 5; list 5 0; list 5 17");
    /** With sides, six lines, all of which have colours. */
    private static final Scene EVEN = Scene.net(5, 0, 2, 0, 3, 0, 4, 1, 2, 1, 3, 1, 4)
            .then("growAll; keep; swap 0 2; list 1 5");
    /** No number of the line that was grown last is 0. */
    private static final Scene GROWN = Scene.net(7, 3, 0, 4, 3, 2, 3, 4, 5, 6, 5, 6, 3).painted("0.1104")
            .then("list 0 6; list 5 500; keep; grow 1; keep; paint 1 3");
    /** An odd round; no number of the line that was grown last is 0, a line has no colour, nothing is kept. */
    private static final Scene UNKEPT = Scene.net(5, 2, 3, 1, 0, 3, 1, 3, 0, 0, 4).painted("012.0")
            .then("grow 3; list 4 3; bare 4");
    /** As that, but all lines have colours, and by turning chains it comes of what is kept. */
    private static final Scene TURNED = Scene.net(5, 2, 3, 1, 0, 3, 1, 3, 0, 0, 4).painted("012.0")
            .then("grow 3; list 4 3; keep; swap 0 2");
    /** Nine lines, too many for the degree; some of the last ones are kept with colours. */
    private static final Scene CROWDED = Scene.full(5, 9).painted("01.2..340").then("grow 2; keep; bare 7; grow 4; list 8 7");
    private static final Scene TWENTY = Scene.full(7, 20).then("grow 3; grow 8; keep; growAll; list 19 3");

    private final Sentences doc = new Sentences();

    public static void main(String[] args) {
        RefusedTest test = new RefusedTest();
        test.begin();
        test.line();
        test.paint();
        test.grow();
        test.pair();
        test.take();
        test.list();
        test.others();
        test.grownStays();
        test.questionsChangeNothing();
        test.noneAheadOfOthers();
        test.doc.end();
    }

    private void begin() {
        doc.say(2, "false, and nothing happens: no such n");
        for (int n : new int[] {0, 10, -1, LEAST, GREATEST}) {
            doc.dueRefused(ODD, "begin " + n, 0);
        }
        doc.dueRefused(EVEN, "begin 0", 0);
        doc.dueRefused(GROWN, "begin 10", 0);
        doc.dueRefused(Scene.NEW, "begin 10", 0);
    }

    private void line() {
        doc.say(3, "NONE, and nothing happens: no such POSTS");
        doc.dueRefused(ODD, "line 0 6", NONE);
        doc.dueRefused(ODD, "line -1 0", NONE);
        doc.dueRefused(EVEN, "line " + GREATEST + " 0", NONE);
        doc.dueRefused(EVEN, "line 0 " + LEAST, NONE);
        doc.say(3, "NONE, and nothing happens: no unlike POSTS");
        doc.dueRefused(ODD, "line 5 5", NONE);
        doc.say(3, "NONE, and nothing happens: there is one between them");
        doc.dueRefused(ODD, "line 0 1", NONE);
        doc.dueRefused(ODD, "line 5 4", NONE);
        doc.say(3, "NONE, and nothing happens: there are 20");
        doc.dueRefused(TWENTY, "line 5 6", NONE);
        doc.dueRefused(Scene.full(9, 20), "line 7 8", NONE);
    }

    private void paint() {
        doc.say(4, "false, and nothing happens: no such LINE");
        doc.dueRefused(ODD, "paint 6 0", 0);
        doc.dueRefused(ODD, "paint -1 0", 0);
        doc.dueRefused(TWENTY, "paint 20 0", 0);
        doc.say(4, "false, and nothing happens: no such COLOUR");
        doc.dueRefused(ODD, "paint 2 4", 0);
        doc.dueRefused(ODD, "paint 2 -1", 0);
        doc.dueRefused(ODD, "paint 2 " + GREATEST, 0);
        doc.say(4, "false, and nothing happens: it has it");
        doc.dueRefused(ODD, "paint 3 2", 0);
        doc.dueRefused(Scene.path(2).painted("0"), "paint 0 0", 0);
        doc.say(4, "false, and nothing happens: it is not FREE at the lesser POST");
        doc.dueRefused(Scene.path(4).painted("0.."), "paint 1 0", 0);
        doc.dueRefused(Scene.path(4).painted("02."), "paint 1 0", 0);
        doc.say(4, "false, and nothing happens: it is not FREE at the greater POST");
        doc.dueRefused(Scene.path(4).painted("..0"), "paint 1 0", 0);
        doc.dueRefused(Scene.path(4).painted(".20"), "paint 1 0", 0);
        doc.say(4, "it is FREE where LINES that don't meet it have it");
        doc.due(Scene.path(4).painted("0.."), "paint 2 0", 1);
    }

    private void grow() {
        doc.say(8, "-2, and nothing happens: it has one");
        doc.dueRefused(ODD, "grow 4", -2);
        doc.dueRefused(ODD, "grow 0", -2);
        doc.dueRefused(EVEN, "grow 5", -2);
        doc.say(8, "NONE: no such one (nothing happens)");
        doc.dueRefused(ODD, "grow 6", NONE);
        doc.dueRefused(ODD, "grow -1", NONE);
        doc.dueRefused(EVEN, "grow " + LEAST, NONE);
    }

    private void pair() {
        doc.say(10, "-2, and nothing happens: there are no SIDES");
        doc.dueRefused(ODD, "pair", -2);
        doc.dueRefused(TWENTY, "pair", -2);
        doc.dueRefused(Scene.round(9).painted("012012012"), "pair", -2);
        doc.say(10, "one part of the network without SIDES is enough");
        doc.dueRefused(Scene.net(7, 0, 1, 1, 2, 2, 3, 4, 5, 5, 6, 4, 6).painted("210012"), "pair", -2);
    }

    private void take() {
        doc.say(12, "false, and nothing happens: there is none");
        doc.dueRefused(ODD, "take 2", 0);
        doc.dueRefused(ODD, "take 0", 0);
        doc.dueRefused(TWENTY, "take 6", 0);
        doc.dueRefused(EVEN, "take 2", 0);
        doc.say(12, "false, and nothing happens: k is above the number of COLOURS");
        doc.dueRefused(ODD, "take 5", 0);
        doc.dueRefused(EVEN, "take 5", 0);
        doc.dueRefused(EVEN, "take 9", 0);
        doc.dueRefused(EVEN, "take " + GREATEST, 0);
        doc.say(12, "false, and nothing happens: there is none by less than 0");
        doc.dueRefused(EVEN, "take -1", 0);
        doc.dueRefused(EVEN, "take " + LEAST, 0);
        doc.dueRefused(EVEN.then("first 3 0; list 1 5"), "take -1", 0);
    }

    private void list() {
        doc.say(28, "NONE, and nothing happens: no such LINE");
        doc.dueRefused(ODD, "list 6 0", NONE);
        doc.dueRefused(ODD, "list -1 0", NONE);
        doc.dueRefused(TWENTY, "list 20 0", NONE);
        doc.say(28, "NONE, and nothing happens: no such set");
        doc.dueRefused(ODD, "list 0 512", NONE);
        doc.dueRefused(ODD, "list 0 -1", NONE);
        doc.dueRefused(EVEN, "list 1 " + LEAST, NONE);
        doc.dueRefused(EVEN, "list 1 " + GREATEST, NONE);
    }

    private void others() {
        doc.say(5, "NONE: none, no such one (there is nothing to happen)");
        doc.dueRefused(ODD, "bare 2", NONE);
        doc.dueRefused(ODD, "bare 6", NONE);
        doc.say(6, "NONE: no such ones (there is nothing to happen)");
        doc.dueRefused(ODD, "turn 6 0 1", NONE);
        doc.dueRefused(ODD, "turn 0 1 1", NONE);
        doc.dueRefused(ODD, "turn 0 0 4", NONE);
        doc.say(7, "NONE: no such unlike ones (there is nothing to happen)");
        doc.dueRefused(ODD, "swap 0 0", NONE);
        doc.dueRefused(ODD, "swap 4 0", NONE);
        doc.say(14, "NONE: nothing is KEPT (there is nothing to happen)");
        doc.dueRefused(Scene.path(4).painted("01."), "back", NONE);
    }

    private void grownStays() {
        doc.say(15, "a call that is refused leaves what was GROWN last as it was");
        doc.dueRefused(GROWN, "line 3 0", NONE);
        doc.dueRefused(GROWN, "paint 0 1", 0);
        doc.dueRefused(GROWN, "bare 6", NONE);
        doc.dueRefused(GROWN, "turn 7 0 1", NONE);
        doc.dueRefused(GROWN, "swap 0 0", NONE);
        doc.dueRefused(GROWN, "grow 0", -2);
        doc.dueRefused(GROWN, "take 3", 0);
        doc.dueRefused(GROWN, "list 0 512", NONE);
        doc.dueRefused(UNKEPT, "pair", -2);
        doc.dueRefused(UNKEPT, "back", NONE);
    }

    /** As a whole run of them: what a question remembers must not change what is told later. */
    private void questionsChangeNothing() {
        doc.say(24, "Nothing is promised beyond the answers and state changes described");
        for (Scene scene : new Scene[] {ODD, EVEN, GROWN, UNKEPT, TURNED, CROWDED}) {
            StringBuilder asked = new StringBuilder();
            int calls = 0;
            for (String question : Look.questions(scene)) {
                asked.append(question).append(';');
                calls++;
                if (calls == 100) {
                    doc.dueSame(scene, scene.then(asked.toString()));
                    asked.setLength(0);
                    calls = 0;
                }
            }
            doc.dueSame(scene, scene.then(asked.toString()));
        }
    }

    private void noneAheadOfOthers() {
        Scene path = Scene.path(8);
        Scene ten = Scene.round(9).then("line 0 2");
        doc.say(20, "Where NONE and -2 could both be told, it is NONE: chain");
        doc.dueBeyond(path, "chain # 0 1 4", 0, 7, NONE);
        doc.dueBeyond(path, "chain 0 # 1 -1", 0, 2, NONE);
        doc.dueBeyond(path, "chain 0 1 # 4", 0, 2, NONE);
        doc.due(path, "chain 0 1 1 4", NONE);
        doc.say(22, "Where NONE and -2 could both be told, it is NONE: calmer");
        doc.dueBeyond(path, "calmer #", 0, 2, NONE);
        doc.say(23, "Where NONE and -2 could both be told, it is NONE: fan");
        doc.due(path.painted("0......"), "fan 0 2 -1", NONE);
        doc.due(path.painted("0......"), "fan 0 2 0", NONE);
        doc.due(path.painted("0......"), "fan 0 0 -2", NONE);
        doc.due(path.painted("0......"), "fan 0 0 " + LEAST, NONE);
        doc.say(25, "Where NONE and -2 could both be told, it is NONE: first");
        doc.dueBeyond(path, "first 1 #", 0, 6, NONE);
        doc.dueBeyond(path, "first 0 #", 0, 6, NONE);
        doc.due(path, "first -1 0", NONE);
        doc.say(26, "Where NONE and -2 could both be told, it is NONE: overfull");
        doc.dueBeyond(path, "overfull #", 0, 2, NONE);
        doc.say(29, "Where NONE and -2 or -3 could both be told, it is NONE: listed");
        doc.dueBeyond(path.then("list 0 0"), "listed #", 0, 6, NONE);
        doc.dueBeyond(ten, "listed #", 0, 9, NONE);
        doc.say(31, "Where NONE and -2 could both be told, it is NONE: longest");
        doc.dueBeyond(path, "longest #", 0, 3, NONE);
        doc.say(34, "Where NONE and -2 could both be told, it is NONE: kinds");
        doc.dueBeyond(path, "kinds #", 1, 4, NONE);
        doc.say(37, "Where NONE and -2 could both be told, it is NONE: sides");
        doc.dueBeyond(Scene.round(9), "sides #", 0, 2, NONE);
        doc.say(39, "Where NONE and -2 could both be told, it is NONE: ways");
        doc.dueBeyond(ten, "ways #", 0, 9, NONE);
        doc.say(40, "Where NONE and -2 could both be told, it is NONE: unlike");
        doc.dueBeyond(path, "unlike #", 0, 1, NONE);
        doc.say(16, "NONE for others, where the LINE has no COLOUR, too");
        doc.dueBeyond(path, "of # 2", 0, 6, NONE);
        doc.say(17, "NONE: no such ones, where none stands against it, too");
        doc.dueBeyond(path, "clash # 0", 0, 6, NONE);
        doc.dueBeyond(path, "clash 0 #", 0, 2, NONE);
    }
}
