/** As many posts, lines and colours as there can be, and lines that are too many for a call: at the number and above. */
public final class FullTest {
    private static final int NONE = Sentences.NONE;
    private static final Scene TWENTY = Scene.full(7, 20);
    private static final Scene SIX_LINES = Scene.path(7);
    private static final Scene SEVEN_LINES = Scene.path(8);
    private static final Scene NINE_LINES = Scene.round(9);
    private static final Scene TEN_LINES = Scene.round(9).then("line 0 2");

    private final Sentences doc = new Sentences();

    public static void main(String[] args) {
        FullTest test = new FullTest();
        test.twentyLines();
        test.useOfTwentyLines();
        test.ninePosts();
        test.nineColours();
        test.belowDegree();
        test.oneForTwoPosts();
        test.nineLines();
        test.sixLines();
        test.fullestRounds();
        test.manyCalls();
        test.doc.end();
    }

    private void twentyLines() {
        doc.say(3, "LINES, 20 at most, numbered from 0 on as they come");
        for (int lines = 0; lines < 20; lines++) {
            Scene scene = Scene.full(7, lines);
            doc.due(scene, "count 1", lines);
            doc.due(scene, "line 6 5", lines);
        }
        doc.say(3, "NONE: there are 20");
        doc.due(TWENTY, "count 1", 20);
        doc.due(TWENTY, "line 5 6", NONE);
        doc.due(TWENTY, "line 6 5", NONE);
        doc.due(TWENTY.then("line 5 6"), "count 1", 20);
        doc.due(Scene.full(9, 20), "line 7 8", NONE);
        doc.due(Scene.full(9, 19), "line 7 8", 19);
    }

    private void useOfTwentyLines() {
        Scene grown = TWENTY.then("growAll");
        doc.say(9, "ALL GROWN: how many had none: 20");
        doc.due(TWENTY, "growAll", 20);
        doc.due(grown, "count 3", 0);
        doc.due(grown, "growAll", 0);
        doc.say(16, "the last LINE of 20");
        doc.dueRow(TWENTY, "of 19 #", 4, 6, -2, 1 << 3 | 1 << 5 | 1 << 8 | 1 << 10 | 1 << 12 | 1 << 14 | 1 << 15 | 1 << 17 | 1 << 18);
        doc.due(TWENTY, "of 20 0", NONE);
        doc.say(19, "these (bits), the last LINE of 20");
        doc.due(TWENTY.then("paint 19 6"), "colour 6 1", 1 << 19);
        doc.say(4, "the last LINE of 20");
        doc.due(TWENTY, "paint 19 6", 1);
        doc.due(TWENTY, "paint 20 6", 0);
        doc.say(28, "the last LINE of 20");
        doc.due(TWENTY, "list 19 1", 511);
        doc.due(TWENTY.then("list 19 1"), "list 19 2", 1);
        doc.due(TWENTY, "list 20 1", NONE);
        doc.say(14, "all 20 LINES were UNLIKE");
        doc.due(TWENTY.then("keep; growAll"), "unlike 0", 20);
        doc.due(TWENTY.then("keep; growAll"), "back", 20);
        doc.due(TWENTY.then("keep; growAll; back"), "count 3", 20);
        doc.say(12, "All LINES are as in the FIRST by k, 20 too");
        doc.dueRow(TWENTY, "take #", 0, 0, 0, 0, 0, 0, 0, 1, 0);
        doc.due(TWENTY.then("take 7"), "count 3", 0);
        doc.say(10, "how many LINES: 20");
        doc.due(Scene.net(9, 0, 4, 0, 5, 0, 6, 0, 7, 0, 8, 1, 4, 1, 5, 1, 6, 1, 7, 1, 8, 2, 4, 2, 5, 2, 6, 2, 7, 2, 8,
                3, 4, 3, 5, 3, 6, 3, 7, 3, 8), "pair", 20);
        doc.say(32, "sets of LINES APART, of 20");
        doc.dueRow(TWENTY, "sets #", 1, 20, 95, 90, 0);
    }

    private void ninePosts() {
        Scene nine = Scene.net(9);
        doc.say(2, "n 1 .. 9: the last POST of 9");
        doc.due(nine, "post 8 0", 0);
        doc.due(nine, "post 9 0", NONE);
        doc.due(nine, "idle 8", 0);
        doc.due(nine, "idle 9", -2);
        doc.due(nine, "line 8 7", 0);
        doc.due(nine, "line 9 8", NONE);
        doc.say(19, "POSTS that lack it (bits), the last of 9");
        doc.due(nine.then("line 7 8; paint 0 1"), "colour 1 2", 127);
        doc.say(20, "its POSTS (bits), the last of 9");
        doc.due(nine.then("line 7 8; paint 0 1"), "chain 8 0 1 1", 384);
        doc.say(37, "POSTS of the one part (bits), the last of 9");
        doc.due(Scene.path(9), "sides 1", 1 | 4 | 16 | 64 | 256);
        doc.say(26, "a set of all 9 POSTS");
        doc.dueRow(Scene.round(9), "overfull #", 511, 9, 8);
        doc.dueRow(Scene.round(9), "refused 2 #", 2, 511);
    }

    private void nineColours() {
        Scene star = Scene.star(8);
        doc.say(18, "COLOURS of these (bits), up to 8");
        doc.due(star.painted("87654321"), "post 0 1", 510);
        doc.due(star.painted("87654321"), "post 0 2", 0);
        doc.due(star.painted("87654321"), "post 0 3", 0);
        doc.say(9, "one COLOUR over the greatest meeting at most");
        doc.due(star, "growAll", 8);
        doc.dueColours(star.then("growAll"), "21345670");
        doc.due(star.then("growAll"), "free 7", 256);
        doc.say(7, "SWAPPED, the last COLOUR of 9");
        doc.dueColours(star.then("growAll; swap 8 0"), "21345678");
        doc.say(31, "the COLOURS, the last of 9");
        doc.dueRow(star.painted("........").then("paint 7 8"), "longest #", 1, 0, 8, 7);
        doc.say(24, "INDEX: 8");
        doc.due(star, "index", 8);
        doc.due(star, "critical", 255);
    }

    private void belowDegree() {
        Scene path = Scene.net(5, 0, 1, 1, 2, 3, 4, 2, 3);
        doc.say(10, "the least COLOUR that is FREE at both its POSTS, if one below DEGREE is; else a CHAIN is TURNED");
        doc.dueColours(path.then("pair"), "0110");
        doc.due(path.painted("010."), "free 3", 4);
        doc.say(10, "all LINES lose their COLOURS");
        doc.due(path.painted("2102"), "pair", 4);
        doc.dueColours(path.painted("2102").then("pair"), "0110");
        doc.say(10, "one LINE, DEGREE 1");
        doc.due(Scene.path(2), "pair", 1);
        doc.dueColours(Scene.path(2).painted("1").then("pair"), "0");
    }

    private void oneForTwoPosts() {
        doc.say(3, "NONE: there is one between them");
        doc.due(Scene.net(2, 0, 1), "line 0 1", NONE);
        doc.due(Scene.net(2, 1, 0), "line 0 1", NONE);
        doc.say(3, "NONE: there is one between them (told the other way)");
        doc.due(Scene.net(2, 0, 1), "line 1 0", NONE);
        doc.due(Scene.full(4, 6), "line 3 2", NONE);
        doc.say(3, "LINES to others of the same POSTS are no such one");
        doc.due(Scene.net(3, 0, 1, 1, 2), "line 2 0", 2);
    }

    private void nineLines() {
        doc.say(29, "9 LINES at most");
        doc.dueRow(NINE_LINES, "listed #", 0, 1, 0, 1, 0, 1, 0, 1, 2, NONE);
        doc.say(29, "-3: there are more than 9 LINES");
        doc.dueRow(TEN_LINES, "listed #", -3, -3, -3, -3, -3, -3, -3, -3, -3, -3, NONE);
        doc.due(TWENTY, "listed 19", -3);
        doc.say(29, "-3, too, where a LIST is empty");
        doc.due(TEN_LINES.then("list 0 0"), "listed 0", -3);
        doc.say(39, "WAYS by k, if there are 9 LINES at most");
        doc.dueRow(NINE_LINES, "ways #", 0, 0, 0, 510, 19680, 262140, 1953120, 10077690, 40353600, 134217720);
        doc.say(39, "-2: there are more LINES");
        doc.dueRow(TEN_LINES, "ways #", -2, -2, -2, -2, -2, -2, -2, -2, -2, -2, NONE);
        doc.due(TWENTY, "ways 9", -2);
        doc.say(25, "FIRST has no such bound");
        doc.due(TEN_LINES, "first 3 9", 2);
        doc.due(TWENTY, "first 7 0", 0);
    }

    private void sixLines() {
        doc.say(34, "KINDS by k, if there are 6 LINES at most");
        doc.dueRow(SIX_LINES, "kinds #", NONE, 0, 1, 1, 1, NONE);
        doc.dueRow(Scene.net(5, 0, 2, 0, 3, 0, 4, 1, 2, 1, 3, 1, 4), "kinds #", NONE, 0, 0, 2, 1, NONE);
        doc.say(34, "-2: there are more LINES");
        doc.dueRow(SEVEN_LINES, "kinds #", NONE, -2, -2, -2, -2, NONE);
        doc.due(TWENTY, "kinds 4", -2);
        Scene six = SIX_LINES.painted("010101").then("keep");
        doc.say(35, "6 LINES at most");
        doc.due(six, "turns 2", 0);
        doc.due(six.then("turn 0 0 1"), "turns 2", 1);
        doc.due(six.then("paint 5 2"), "turns 3", 1);
        doc.say(35, "LINES in the last of 4 COLOURS");
        Scene last = Scene.net(9, 0, 1, 2, 3, 4, 5, 0, 6, 0, 7, 7, 8).painted("333013").then("keep");
        doc.due(last, "turns 4", 0);
        doc.due(last.then("paint 2 0"), "turns 4", 1);
        doc.due(last.then("paint 1 2; paint 2 0"), "turns 4", 2);
        doc.say(35, "NONE: others (more than 6 LINES)");
        Scene seven = SEVEN_LINES.painted("0101010").then("keep");
        doc.dueRow(seven, "turns #", NONE, NONE, NONE, NONE, NONE, NONE);
        doc.due(six.then("line 0 6; paint 6 2; keep"), "turns 3", NONE);
    }

    private void fullestRounds() {
        doc.say(20, "whether it is a round: the least there can be, of 4, and all but one LINE of it");
        doc.due(Scene.round(4).painted("0101"), "chain 0 0 1 2", 1);
        doc.due(Scene.round(4).painted("010."), "chain 0 0 1 2", 0);
        doc.say(20, "whether it is a round: the greatest there can be, of 8");
        doc.dueRow(Scene.round(8).painted("01010101"), "chain 7 0 1 #", 255, 255, 1, 0);
        doc.say(6, "a round is TURNED");
        doc.due(Scene.round(8).painted("01010101"), "turn 7 0 1", 8);
        doc.dueColours(Scene.round(8).painted("01010101").then("turn 7 0 1"), "10101010");
        doc.say(37, "of how many POSTS the least odd round is (0: there is none): even ones are none");
        doc.due(Scene.round(8), "sides 2", 0);
        doc.due(Scene.round(4), "sides 2", 0);
        doc.due(Scene.round(8).then("line 0 2"), "sides 2", 3);
        doc.say(10, "-2: there are no SIDES by an odd round, there are by an even one");
        doc.due(Scene.round(9), "pair", -2);
        doc.due(Scene.round(8), "pair", 8);
    }

    private void manyCalls() {
        StringBuilder told = new StringBuilder();
        for (int i = 0; i < 84; i++) {
            told.append("begin 3; line 0 1; line 1 2; paint 0 2; keep; back;");
        }
        doc.say(2, "An object is used for at most 512 calls");
        doc.due(Scene.of(told.toString()).then("begin 9; line 7 8; paint 0 0; bare 0; grow 0; grown 2; index"), "count 3", 0);
    }
}
