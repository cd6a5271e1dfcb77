/**
 * The words in capitals, sentence by sentence: which of several is told, how long something goes on,
 * and what a word does not lean on. Each answer would be another one, were that sentence alone broken.
 */
public final class TermsTest {
    private static final int NONE = Sentences.NONE;
    private static final Scene TWENTY = Scene.full(7, 20);
    /** Petersen's net without a post: three lines at most meet, no odd set has too many, yet three colours don't do. */
    private static final Scene HARD =
            Scene.net(9, 0, 1, 1, 2, 2, 3, 0, 5, 1, 6, 2, 7, 3, 8, 4, 6, 4, 7, 5, 7, 5, 8, 6, 8);
    /** A path from post 0 to post 8, whose lines came here and there. */
    private static final Scene SCATTERED = Scene.net(9, 3, 4, 0, 1, 6, 7, 4, 5, 1, 2, 7, 8, 2, 3, 5, 6);

    private final Sentences doc = new Sentences();

    public static void main(String[] args) {
        TermsTest test = new TermsTest();
        test.linesAndDegree();
        test.chain();
        test.fan();
        test.grown();
        test.paired();
        test.evenAsLongAs();
        test.evenWhichColours();
        test.evenWhichChain();
        test.firstByMoreThanColours();
        test.firstOfLateLines();
        test.firstByIndex();
        test.overfull();
        test.lists();
        test.critical();
        test.turns();
        test.sides();
        test.calmer();
        test.longest();
        test.clashAndCount();
        test.doc.end();
    }

    private void linesAndDegree() {
        StringBuilder backward = new StringBuilder();
        for (int a = 0; a < 6; a++) {
            for (int b = a + 1; b < 6; b++) {
                backward.append("line ").append(b).append(' ').append(a).append(';');
            }
        }
        Scene laid = Scene.net(6).then(backward.toString());
        doc.say(16, "its lesser POST, its greater one, whichever was told first");
        doc.dueRow(laid, "of # 0", 0, 0, 0, 0, 0, 1, 1, 1, 1, 2, 2, 2, 3, 3, 4, NONE);
        doc.dueRow(laid, "of # 1", 1, 2, 3, 4, 5, 2, 3, 4, 5, 3, 4, 5, 4, 5, 5, NONE);
        doc.say(41, "DEGREE: the most LINES at one POST, be it the greater one, be the last LINE elsewhere");
        doc.due(Scene.net(7, 0, 1, 0, 2, 0, 3, 5, 6), "count 2", 3);
        doc.due(Scene.net(7, 6, 1, 6, 2, 6, 3, 0, 5), "count 2", 3);
        doc.say(3, "each has a COLOUR or none (as it comes), the last of 20, too");
        doc.due(Scene.full(7, 19).then("growAll; line 4 6"), "of 19 2", -2);
    }

    private void chain() {
        Scene whole = SCATTERED.painted("10001101");
        doc.say(20, "all LINES to which one comes from the POST along such LINES: 8, from each POST");
        for (int post = 0; post < 9; post++) {
            doc.dueRow(whole, "chain " + post + " 0 1 #", 255, 511, 0, 0);
        }
        doc.say(20, "along such LINES: not over one of another COLOUR");
        doc.dueRow(whole.then("paint 0 2"), "chain 0 0 1 #", 1 << 1 | 1 << 4 | 1 << 6, 15, 0, 1);
        doc.dueRow(whole.then("paint 0 2"), "chain 6 0 1 #", 1 << 2 | 1 << 3 | 1 << 5 | 1 << 7, 496, 0, 0);
        doc.say(6, "TURNED: each of its LINES has the other one");
        doc.due(whole, "turn 4 1 0", 8);
        doc.dueColours(whole.then("turn 4 1 0"), "01110010");
        doc.dueColours(whole.then("paint 0 2; turn 4 0 1"), "20111000");
    }

    private void fan() {
        Scene star = Scene.star(8).painted(".0123456");
        doc.say(23, "till there is none: all 8 POSTS that x has LINES to");
        doc.due(star, "fan 0 0 -1", 8);
        doc.dueRow(star, "fan 0 0 #", 1, 2, 3, 4, 5, 6, 7, 8, NONE);
        doc.say(23, "of several by the least COLOUR, not the least LINE or POST");
        doc.dueRow(Scene.star(4).painted(".312"), "fan 0 0 #", 1, 3, 4, 2, NONE);
    }

    private void grown() {
        Scene fanTurned = Scene.net(5, 2, 3, 1, 0, 3, 1, 3, 0, 0, 4).painted("012.0");
        doc.say(8, "w is the FAN's last: the LINES ahead of it have the COLOUR of that to the next one, that to w has d");
        doc.due(fanTurned, "grow 3", 2);
        doc.dueColours(fanTurned.then("grow 3"), "00121");
        doc.dueRow(fanTurned.then("grow 3"), "grown #", 2, 1, 3, 2, 2, NONE);
        Scene fanCut = Scene.net(7, 3, 0, 4, 3, 2, 3, 4, 5, 6, 5, 6, 3).painted("0.1104");
        doc.say(8, "w is the first POST of the FAN at which d is FREE: LINES behind it stay as they are");
        doc.due(fanCut, "grow 1", 0);
        doc.dueColours(fanCut.then("grow 1"), "102104");
        doc.dueRow(fanCut.then("grow 1"), "grown #", 2, 1, 4, 1, 1, NONE);
    }

    private void paired() {
        Scene byA = Scene.net(5, 3, 2, 3, 4, 1, 2, 3, 0, 1, 4, 1, 0);
        doc.say(10, "let a be the least FREE at its lesser POST (of two below DEGREE)");
        doc.due(byA, "pair", 6);
        doc.dueColours(byA.then("pair"), "011220");
        Scene byB = Scene.net(5, 4, 1, 0, 3, 3, 4, 3, 2, 0, 1, 1, 2);
        doc.say(10, "b that at its greater one (of two below DEGREE)");
        doc.due(byB, "pair", 6);
        doc.dueColours(byB.then("pair"), "021012");
    }

    private void evenAsLongAs() {
        Scene three = Scene.net(9, 0, 1, 2, 3, 4, 5, 6, 7, 8, 0, 8, 1, 8, 2, 8, 3).painted("3333");
        doc.say(11, "as long as: three CHAINS");
        doc.due(three, "even", 3);
        doc.dueColours(three.then("even"), "0123....");
        Scene four = Scene.net(9, 0, 1, 1, 2, 2, 3, 3, 4, 4, 5, 5, 6, 6, 7, 7, 0, 8, 0, 8, 1, 8, 2, 8, 3, 8, 4)
                .painted("45454545");
        doc.say(11, "as long as: four CHAINS");
        doc.due(four, "even", 4);
        doc.dueColours(four.then("even"), "01234545.....");
        Scene six = Scene.net(9, 0, 4, 1, 5, 2, 6, 3, 7, 0, 5, 1, 6, 2, 7, 3, 4, 0, 6, 1, 7, 2, 4, 3, 5,
                8, 0, 8, 1, 8, 2, 8, 3, 8, 4).painted("333344445555");
        doc.say(11, "as long as: six CHAINS, till all have as many");
        doc.due(six, "count 5", 0);
        doc.due(six, "even", 6);
        doc.dueColours(six.then("even"), "003311442255.....");
        doc.due(six.then("even"), "even", 0);
    }

    private void evenWhichColours() {
        Scene two = Scene.net(9, 0, 1, 2, 3, 4, 5, 6, 7, 8, 7);
        doc.say(11, "one that most LINES have (the least such)");
        doc.due(two.painted("2121"), "even", 1);
        doc.dueColours(two.painted("2121").then("even"), "2021.");
        doc.say(11, "one that fewest have (the least such)");
        doc.due(two.painted("22"), "even", 1);
        doc.dueColours(two.painted("22").then("even"), "02...");
    }

    private void evenWhichChain() {
        Scene leaning = Scene.net(9, 0, 1, 1, 2, 3, 4, 4, 5, 5, 6, 7, 8).painted("010100");
        doc.say(11, "of CHAINS of both in which the first one has more LINES: not of those with as many, nor by length");
        doc.due(leaning, "even", 1);
        doc.dueColours(leaning.then("even"), "011010");
        Scene least = Scene.net(9, 4, 5, 7, 8, 3, 4, 5, 6, 0, 1, 1, 2).painted("100001");
        doc.say(11, "that with the least LINE, of whichever COLOUR that is");
        doc.due(least, "even", 1);
        doc.dueColours(least.then("even"), "001101");
    }

    private void firstByMoreThanColours() {
        Scene three = Scene.net(8, 0, 2, 0, 3, 1, 3, 1, 2, 4, 5, 4, 6, 7, 0, 7, 1, 7, 4);
        doc.say(25, "FIRST by k, k above the number of COLOURS: as many as k are there");
        for (int k = 5; k <= 9; k++) {
            doc.dueRow(three, "first " + k + " #", 0, 1, 0, 1, 0, 1, 2, 3, 4, NONE);
        }
        doc.say(25, "FIRST by fewer is another one");
        doc.dueRow(three, "first 4 #", 0, 1, 0, 1, 0, 2, 2, 3, 1, NONE);
        doc.dueRow(three, "first 3 #", 0, 1, 0, 2, 1, 2, 2, 1, 0, NONE);
        doc.say(12, "as in the FIRST by k, not in that by INDEX");
        doc.dueColours(three.then("take 4"), "010102231");
        doc.dueColours(three.then("take 3"), "010212210");
        doc.due(three, "index", 3);
        doc.say(25, "FIRST by 9: COLOUR 8, too");
        doc.dueRow(Scene.net(9, 2, 6, 5, 3, 2, 0, 0, 4, 1, 0, 1, 6, 1, 5, 1, 2, 7, 8, 1, 8, 1, 7, 1, 3, 1, 4), "first 9 #",
                0, 0, 1, 0, 2, 1, 3, 4, 0, 5, 6, 7, 8, NONE);
    }

    /** Laid in this order, the least that LINES ahead leave to that of a and b is (a xor b) less 1. */
    private void firstOfLateLines() {
        StringBuilder all = new StringBuilder();
        doc.say(25, "that of which LINE 0 has the least COLOUR, then LINE 1, and so on: to LINE 19");
        for (int a = 0; a < 7; a++) {
            for (int b = a + 1; b < 7 && all.length() < 20; b++) {
                for (int k = 7; k <= 9; k++) {
                    doc.due(TWENTY, "first " + k + " " + all.length(), (a ^ b) - 1);
                }
                all.append((a ^ b) - 1);
            }
        }
        doc.say(12, "All LINES are as in the FIRST by k: to LINE 19");
        doc.dueColours(TWENTY.then("take 7"), all.toString());
        doc.dueColours(TWENTY.then("growAll; take 7"), all.toString());
    }

    /** Found by trying all in their order, without the class: some of them only after hundreds of tries. */
    private void firstByIndex() {
        doc.say(25, "FIRST by as few as INDEX, where LINES ahead must leave COLOURS to those behind");
        dueFirst(Scene.full(6, 15), 5, "012342341403102");
        dueFirst(Scene.full(7, 18), 6, "012345341525204013");
        dueFirst(HARD, 4, "010122101023");
        dueFirst(Scene.net(9, 0, 4, 0, 5, 0, 6, 0, 7, 0, 8, 1, 4, 1, 5, 1, 6, 1, 7, 1, 8, 2, 4, 2, 5, 2, 6, 2, 7, 2, 8,
                3, 4, 3, 5, 3, 6, 3, 7, 3, 8), 5, "01234103422340134120");
        dueFirst(Scene.net(6, 0, 1, 0, 2, 0, 3, 0, 4, 1, 2, 1, 3, 1, 5, 2, 4, 2, 5, 3, 4, 3, 5, 4, 5), 4, "012323103102");
        dueFirst(Scene.net(8, 0, 1, 0, 2, 0, 4, 0, 6, 0, 7, 1, 2, 1, 3, 1, 5, 1, 7, 2, 3, 2, 4, 2, 6, 3, 4, 3, 5, 3, 7,
                4, 5, 4, 6, 5, 6, 5, 7, 6, 7), 5, "01234214303443201210");
    }

    private void dueFirst(Scene scene, int index, String colours) {
        doc.due(scene, "index", index);
        for (int line = 0; line < colours.length(); line++) {
            doc.due(scene, "first " + index + " " + line, colours.charAt(line) - '0');
            doc.due(scene, "first " + (index - 1) + " " + line, -2);
        }
        doc.dueColours(scene.then("take " + index), colours);
    }

    private void overfull() {
        doc.say(26, "a set of POSTS, three at least, an odd number: 3, 5, 7");
        doc.dueRow(Scene.net(9, 4, 6, 6, 8, 8, 4), "overfull #", 336, 3, 2, NONE);
        doc.dueRow(Scene.net(9, 3, 4, 4, 5, 5, 6, 6, 7, 7, 3), "overfull #", 248, 5, 4, NONE);
        doc.dueRow(Scene.round(7), "overfull #", 127, 7, 6, NONE);
        doc.dueRow(Scene.round(7), "refused 2 #", 2, 127, NONE);
    }

    private void lists() {
        doc.say(29, "LISTED leans on LISTS, not on the COLOURS that LINES have");
        doc.dueRow(Scene.path(3).painted("0.").then("list 0 1; list 1 1"), "listed #", -2, -2, NONE);
        doc.dueRow(Scene.path(3).painted("12").then("list 0 3; list 1 6"), "listed #", 0, 1, NONE);
        doc.say(28, "LISTS bind LISTED alone: COLOURS that they lack can be had");
        Scene listed = Scene.path(4).then("list 0 0; list 1 256; list 2 0");
        doc.due(listed, "paint 0 0", 1);
        doc.due(listed, "grow 1", 0);
        doc.dueColours(listed.then("growAll"), Scene.path(4).then("growAll").colours());
        doc.dueColours(listed.then("pair"), "010");
        doc.dueColours(listed.then("take 2"), "010");
        doc.due(listed, "free 1", 7);
        doc.due(listed, "ways 2", 2);
        doc.due(listed, "index", 2);
    }

    /** Of both nets HARD itself, which needs four colours, is what is left without the last line. */
    private void critical() {
        doc.say(33, "the INDEX would be less: not where no set has too many any more, yet three COLOURS don't do");
        doc.due(HARD.then("line 0 3"), "overfull 0", 511);
        doc.due(HARD.then("line 0 3"), "index", 4);
        doc.due(HARD.then("line 0 3"), "critical", 4095);
        doc.say(33, "the INDEX would be less: not where the DEGREE alone would be");
        doc.due(HARD.then("line 0 2"), "count 2", 4);
        doc.due(HARD.then("line 0 2"), "index", 4);
        doc.due(HARD.then("line 0 2"), "critical", 1 << 1 | 1 << 2 | 1 << 5);
    }

    private void turns() {
        doc.say(35, "all with such COLOURS in both: NONE by each k that a COLOUR is not below");
        doc.dueRow(Scene.star(3).painted("013").then("keep"), "turns #", NONE, NONE, NONE, NONE, 0, NONE);
        doc.say(35, "The fewest TURNED CHAINS: 5, of 5 LINES");
        Scene five = Scene.net(6, 0, 1, 0, 2, 0, 3, 1, 4, 2, 5).painted("01212").then("keep");
        doc.due(five.then("bare 0; bare 1; bare 2; bare 3; bare 4").painted("30123"), "turns 4", 5);
        doc.say(35, "The fewest TURNED CHAINS: 6, of 6 LINES");
        Scene six = Scene.net(7, 0, 1, 0, 2, 0, 3, 1, 4, 2, 5, 3, 6).painted("012123").then("keep");
        doc.due(six.then("bare 0; bare 1; bare 2; bare 3; bare 4; bare 5").painted("301230"), "turns 4", 6);
    }

    private void sides() {
        doc.say(37, "that with its least POST, be it the lesser or the greater part");
        doc.due(Scene.star(3), "sides 1", 1);
        doc.due(Scene.net(4, 1, 0, 1, 2, 1, 3), "sides 1", 1 | 4 | 8);
        doc.due(Scene.net(6, 5, 1, 5, 3, 5, 4), "sides 1", 1 | 2 | 4 | 8 | 16);
        doc.say(37, "of how many POSTS the least odd round is: not that with the least POST");
        doc.due(Scene.net(8, 0, 1, 1, 2, 2, 3, 3, 4, 4, 0, 5, 6, 6, 7, 7, 5), "sides 2", 3);
        doc.due(Scene.net(8, 0, 1, 1, 2, 2, 0, 3, 4, 4, 5, 5, 6, 6, 7, 7, 3), "sides 2", 3);
    }

    private void calmer() {
        doc.say(22, "of several by the less COLOUR, then the other one");
        doc.dueRow(Scene.net(6, 1, 5, 2, 5, 5, 3).painted("13."), "calmer #", 1, 0, 3, NONE);
    }

    private void longest() {
        Scene byLess = Scene.net(9, 4, 5, 5, 6, 6, 7, 0, 1, 1, 2, 2, 3, 1, 8).painted("121030");
        doc.say(31, "of several by the less COLOUR, ahead of the other one and of the least LINE");
        doc.dueRow(byLess, "longest #", 3, 0, 3, 3, NONE);
        doc.say(31, "of several by the other one, ahead of the least LINE");
        doc.dueRow(Scene.net(6, 0, 1, 1, 2, 3, 4, 4, 5).painted("2001"), "longest #", 2, 0, 1, 2, NONE);
        doc.say(31, "of several of the same COLOURS by the least LINE");
        doc.dueRow(Scene.net(4, 0, 1, 2, 3).painted("00"), "longest #", 1, 0, 1, 0, NONE);
        doc.dueRow(Scene.net(6, 0, 1, 1, 2, 3, 4, 4, 5).painted("1010"), "longest #", 2, 0, 1, 0, NONE);
    }

    private void clashAndCount() {
        doc.say(17, "at the lesser POST, else at the greater: not the least LINE of both");
        doc.due(Scene.net(4, 1, 2, 2, 3, 0, 1).painted(".00"), "clash 0 0", 2);
        doc.say(41, "COLOURS that are used: not those below that none has");
        doc.due(Scene.path(4).painted("0.2"), "count 4", 2);
        doc.due(Scene.path(4).painted("2.."), "count 4", 1);
    }
}
