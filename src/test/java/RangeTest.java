/** Numbers that are too small or too large: the last that is one and the first that is none, on both sides. */
public final class RangeTest {
    private static final int NONE = Sentences.NONE;
    /** Posts 0 .. 3, lines 0 .. 2, colours 0 .. 2. */
    private static final Scene PATH = Scene.path(4);
    private static final Scene PAINTED_PATH = PATH.painted("010");
    /** As many lines at one post and as many colours as there can be: lines 0 .. 7, colours 0 .. 8. */
    private static final Scene STAR = Scene.star(8);
    private static final Scene PAINTED_STAR = STAR.painted("12345678");
    /** Petersen's net without a post: three lines at most meet, no odd set has too many, yet three colours don't do. */
    private static final Scene HARD =
            Scene.net(9, 0, 1, 1, 2, 2, 3, 0, 5, 1, 6, 2, 7, 3, 8, 4, 6, 4, 7, 5, 7, 5, 8, 6, 8);

    private final Sentences doc = new Sentences();

    public static void main(String[] args) {
        RangeTest test = new RangeTest();
        test.begin();
        test.line();
        test.paint();
        test.bareAndFree();
        test.turn();
        test.swapAndChains();
        test.grow();
        test.take();
        test.grown();
        test.of();
        test.clash();
        test.post();
        test.colour();
        test.chain();
        test.idle();
        test.calmer();
        test.fan();
        test.first();
        test.overfull();
        test.refused();
        test.list();
        test.listed();
        test.longest();
        test.sets();
        test.kinds();
        test.turns();
        test.sides();
        test.apart();
        test.ways();
        test.unlike();
        test.count();
        test.doc.end();
    }

    private void begin() {
        doc.say(2, "n 1 .. 9: true");
        doc.due(Scene.NEW, "begin 1", 1);
        doc.due(Scene.NEW, "begin 9", 1);
        doc.due(Scene.of("begin 1"), "count 0", 1);
        doc.due(Scene.of("begin 9"), "count 0", 9);
        doc.say(2, "false: no such n");
        doc.dueBeyond(Scene.NEW, "begin #", 1, 9, 0);
        doc.dueBeyond(PATH, "begin #", 1, 9, 0);
    }

    private void line() {
        Scene most = Scene.net(9);
        Scene three = Scene.net(3);
        doc.say(3, "POSTS 0 .. n less 1");
        doc.due(most, "line 0 8", 0);
        doc.due(most, "line 8 0", 0);
        doc.due(three, "line 2 0", 0);
        doc.say(3, "NONE: no such unlike POSTS (the first is none)");
        doc.dueBeyond(most, "line # 0", 0, 8, NONE);
        doc.dueBeyond(three, "line # 0", 0, 2, NONE);
        doc.say(3, "NONE: no such unlike POSTS (the second is none)");
        doc.dueBeyond(most, "line 8 #", 0, 8, NONE);
        doc.dueBeyond(three, "line 2 #", 0, 2, NONE);
        doc.say(3, "NONE: no such unlike POSTS (both are none)");
        doc.dueBeyond(most, "line # #", 0, 8, NONE);
        doc.say(3, "NONE: no such unlike POSTS (both are the same)");
        doc.dueRow(three, "line # #", NONE, NONE, NONE);
        doc.due(most, "line 8 8", NONE);
    }

    private void paint() {
        doc.say(4, "COLOURS are 0 .. DEGREE (one more than it)");
        doc.dueRow(PATH, "paint 0 #", 1, 1, 1);
        doc.dueRow(STAR, "paint 7 #", 1, 1, 1, 1, 1, 1, 1, 1, 1);
        doc.dueRow(Scene.path(2), "paint 0 #", 1, 1, 0);
        doc.say(4, "false: no such LINE");
        doc.dueRow(PATH, "paint # 0", 1, 1, 1);
        doc.dueBeyond(PATH, "paint # 0", 0, 2, 0);
        doc.dueBeyond(STAR, "paint # 8", 0, 7, 0);
        doc.say(4, "false: no such COLOUR");
        doc.dueBeyond(PATH, "paint 0 #", 0, 2, 0);
        doc.dueBeyond(STAR, "paint 7 #", 0, 8, 0);
        doc.say(4, "COLOURS are 0 .. DEGREE, as LINES come");
        doc.due(PATH, "paint 0 3", 0);
        doc.due(PATH.then("line 1 3"), "paint 0 3", 1);
    }

    private void bareAndFree() {
        doc.say(5, "NONE: no such one");
        doc.dueRow(PAINTED_PATH, "bare #", 0, 1, 0);
        doc.due(PAINTED_STAR, "bare 7", 8);
        doc.dueBeyond(PAINTED_PATH, "bare #", 0, 2, NONE);
        doc.dueBeyond(PAINTED_STAR, "bare #", 0, 7, NONE);
        doc.say(30, "bits of 0 .. DEGREE");
        doc.due(Scene.path(2), "free 0", 3);
        doc.due(PATH, "free 2", 7);
        doc.due(STAR, "free 7", 511);
        doc.due(PAINTED_STAR, "free 0", 1);
        doc.say(30, "NONE: no such one");
        doc.dueBeyond(PATH, "free #", 0, 2, NONE);
        doc.dueBeyond(STAR, "free #", 0, 7, NONE);
    }

    private void turn() {
        doc.say(6, "how many LINES");
        doc.dueRow(PAINTED_PATH, "turn # 0 1", 3, 3, 3, 3);
        doc.due(PAINTED_PATH, "turn 3 0 2", 1);
        doc.due(PAINTED_PATH, "turn 3 2 0", 1);
        doc.say(6, "NONE: no such POST");
        doc.dueBeyond(PAINTED_PATH, "turn # 0 1", 0, 3, NONE);
        doc.dueBeyond(PAINTED_STAR, "turn # 0 1", 0, 8, NONE);
        doc.say(6, "NONE: no such COLOUR (the one)");
        doc.dueBeyond(PAINTED_PATH, "turn 0 # 1", 0, 2, NONE);
        doc.dueBeyond(PAINTED_STAR, "turn 0 # 1", 0, 8, NONE);
        doc.say(6, "NONE: no such COLOUR (the other)");
        doc.dueBeyond(PAINTED_PATH, "turn 0 1 #", 0, 2, NONE);
        doc.dueBeyond(PAINTED_STAR, "turn 0 1 #", 0, 8, NONE);
        doc.say(6, "CHAIN of a POST and two unlike COLOURS");
        doc.dueRow(PAINTED_PATH, "turn 0 # #", NONE, NONE, NONE);
    }

    private void swapAndChains() {
        doc.say(7, "NONE: no such unlike ones");
        doc.due(PAINTED_PATH, "swap 0 2", 2);
        doc.due(PAINTED_PATH, "swap 2 0", 2);
        doc.due(PAINTED_STAR, "swap 8 0", 1);
        doc.dueBeyond(PAINTED_PATH, "swap # 1", 0, 2, NONE);
        doc.dueBeyond(PAINTED_PATH, "swap 1 #", 0, 2, NONE);
        doc.dueBeyond(PAINTED_STAR, "swap # 1", 0, 8, NONE);
        doc.dueBeyond(PAINTED_STAR, "swap 1 #", 0, 8, NONE);
        doc.dueRow(PAINTED_PATH, "swap # #", NONE, NONE, NONE);
        doc.say(36, "NONE: no such unlike ones");
        doc.due(PAINTED_PATH, "chains 0 2", 2);
        doc.due(PAINTED_PATH, "chains 2 0", 2);
        doc.due(PAINTED_STAR, "chains 8 0", 1);
        doc.dueBeyond(PAINTED_PATH, "chains # 1", 0, 2, NONE);
        doc.dueBeyond(PAINTED_PATH, "chains 1 #", 0, 2, NONE);
        doc.dueBeyond(PAINTED_STAR, "chains # 1", 0, 8, NONE);
        doc.dueBeyond(PAINTED_STAR, "chains 1 #", 0, 8, NONE);
        doc.dueRow(PAINTED_PATH, "chains # #", NONE, NONE, NONE);
    }

    private void grow() {
        doc.say(8, "NONE: no such one");
        doc.dueRow(PATH, "grow #", 0, 0, 0);
        doc.due(STAR, "grow 7", 0);
        doc.dueBeyond(PATH, "grow #", 0, 2, NONE);
        doc.dueBeyond(STAR, "grow #", 0, 7, NONE);
        doc.dueBeyond(PAINTED_PATH, "grow #", 0, 2, NONE);
    }

    private void take() {
        doc.say(12, "false: k is above the number of COLOURS");
        doc.dueRow(PATH, "take #", 0, 0, 1, 1, 0);
        doc.dueRow(Scene.path(2), "take #", 0, 1, 1, 0);
        doc.dueRow(Scene.round(3), "take #", 0, 0, 0, 1, 0);
        doc.dueRow(STAR, "take #", 0, 0, 0, 0, 0, 0, 0, 0, 1, 1, 0);
        doc.dueBeyond(PATH, "take #", 0, 3, 0);
        doc.dueBeyond(STAR, "take #", 0, 9, 0);
    }

    private void grown() {
        doc.say(15, "NONE: others");
        Scene grown = Scene.net(4, 0, 1, 0, 2, 0, 3, 1, 2).painted(".012").then("grow 0");
        doc.dueRow(grown, "grown #", 2, 0, 3, 2, 2);
        doc.dueBeyond(grown, "grown #", 0, 4, NONE);
    }

    private void of() {
        doc.say(16, "Of a LINE");
        doc.dueRow(PAINTED_PATH, "of 0 #", 0, 1, 0, 2);
        doc.dueRow(PAINTED_PATH, "of 2 #", 2, 3, 0, 2);
        doc.dueRow(PAINTED_STAR, "of 7 #", 0, 8, 8, 127);
        doc.say(16, "NONE for others (no such LINE)");
        for (int what = 0; what <= 3; what++) {
            doc.dueBeyond(PATH, "of # " + what, 0, 2, NONE);
            doc.dueBeyond(PAINTED_STAR, "of # " + what, 0, 7, NONE);
        }
        doc.say(16, "NONE for others (no such what)");
        doc.dueBeyond(PAINTED_PATH, "of 2 #", 0, 3, NONE);
    }

    private void clash() {
        doc.say(17, "Which LINE with a COLOUR stands against a LINE's having it");
        doc.dueRow(PAINTED_PATH, "clash 0 #", 0, 1, -2);
        doc.dueRow(PAINTED_PATH, "clash 2 #", 2, 1, -2);
        doc.dueRow(PAINTED_STAR, "clash 7 #", -2, 0, 1, 2, 3, 4, 5, 6, 7);
        doc.say(17, "NONE: no such LINE");
        doc.dueBeyond(PAINTED_PATH, "clash # 0", 0, 2, NONE);
        doc.dueBeyond(PAINTED_STAR, "clash # 0", 0, 7, NONE);
        doc.say(17, "NONE: no such COLOUR");
        doc.dueBeyond(PAINTED_PATH, "clash 0 #", 0, 2, NONE);
        doc.dueBeyond(PAINTED_STAR, "clash 0 #", 0, 8, NONE);
    }

    private void post() {
        doc.say(18, "Of a POST");
        doc.dueRow(PAINTED_PATH, "post 0 #", 1, 1, 1, 0);
        doc.dueRow(PAINTED_PATH, "post 3 #", 1, 1, 1, 2);
        doc.dueRow(PAINTED_STAR, "post 0 #", 8, 510, 0, 7);
        doc.dueRow(PAINTED_STAR, "post 8 #", 1, 256, 0, 7);
        doc.say(18, "the least FREE one is the last COLOUR where the POST has all others");
        doc.due(STAR.painted("01234567"), "post 0 2", 8);
        doc.say(18, "NONE for others (no such POST)");
        for (int what = 0; what <= 3; what++) {
            doc.dueBeyond(PAINTED_PATH, "post # " + what, 0, 3, NONE);
            doc.dueBeyond(PAINTED_STAR, "post # " + what, 0, 8, NONE);
        }
        doc.say(18, "NONE for others (no such what)");
        doc.dueBeyond(PAINTED_PATH, "post 3 #", 0, 3, NONE);
    }

    private void colour() {
        doc.say(19, "Of a COLOUR");
        doc.dueRow(PAINTED_PATH, "colour 0 #", 2, 5, 0);
        doc.dueRow(PAINTED_PATH, "colour 2 #", 0, 0, 15);
        doc.dueRow(PAINTED_STAR, "colour 8 #", 1, 128, 254);
        doc.dueRow(PAINTED_STAR, "colour 0 #", 0, 0, 511);
        doc.say(19, "NONE for others (no such COLOUR)");
        for (int what = 0; what <= 2; what++) {
            doc.dueBeyond(PAINTED_PATH, "colour # " + what, 0, 2, NONE);
            doc.dueBeyond(PAINTED_STAR, "colour # " + what, 0, 8, NONE);
        }
        doc.say(19, "NONE for others (no such what)");
        doc.dueBeyond(PAINTED_PATH, "colour 2 #", 0, 2, NONE);
    }

    private void chain() {
        doc.say(20, "Of a CHAIN");
        doc.dueRow(PAINTED_PATH, "chain 3 0 1 #", 7, 15, 0, 1);
        doc.dueRow(PAINTED_PATH, "chain 0 2 0 #", 1, 3, 0, -1);
        doc.dueRow(PAINTED_STAR, "chain 8 8 0 #", 128, 257, 0, 1);
        doc.say(20, "-2 for others");
        doc.dueBeyond(PAINTED_PATH, "chain 3 0 1 #", 0, 3, -2);
        doc.say(20, "NONE: no such POST");
        doc.dueBeyond(PAINTED_PATH, "chain # 0 1 0", 0, 3, NONE);
        doc.dueBeyond(PAINTED_STAR, "chain # 0 1 1", 0, 8, NONE);
        doc.say(20, "NONE: no such COLOUR (the one)");
        doc.dueBeyond(PAINTED_PATH, "chain 0 # 1 0", 0, 2, NONE);
        doc.dueBeyond(PAINTED_STAR, "chain 0 # 1 2", 0, 8, NONE);
        doc.say(20, "NONE: no such COLOUR (the other)");
        doc.dueBeyond(PAINTED_PATH, "chain 0 1 # 0", 0, 2, NONE);
        doc.dueBeyond(PAINTED_STAR, "chain 0 1 # 3", 0, 8, NONE);
        doc.say(20, "NONE: no two unlike COLOURS");
        doc.dueRow(PAINTED_PATH, "chain 0 # # 0", NONE, NONE, NONE);
    }

    private void idle() {
        Scene scene = PATH.painted("020");
        doc.say(21, "IDLE of a POST");
        doc.dueRow(scene, "idle #", 0, 1, 1, 0);
        doc.due(PAINTED_STAR, "idle 8", 0);
        doc.due(STAR.painted("0......8"), "idle 0", 7);
        doc.say(21, "(NONE) of all together");
        doc.due(scene, "idle -1", 2);
        doc.say(21, "-2: no such POST");
        doc.dueBeyond(scene, "idle #", -1, 3, -2);
        doc.dueBeyond(PAINTED_STAR, "idle #", -1, 8, -2);
    }

    private void calmer() {
        Scene scene = PATH.painted("020");
        doc.say(22, "by how much less, the COLOURS");
        doc.dueRow(scene, "calmer #", 2, 0, 1);
        doc.dueRow(Scene.net(8, 0, 1, 0, 2, 0, 3, 0, 4, 5, 6, 6, 7).painted("012401"), "calmer #", 1, 3, 4);
        doc.say(22, "NONE for others");
        doc.dueBeyond(scene, "calmer #", 0, 2, NONE);
        doc.say(22, "-2: by none it would be less");
        doc.dueRow(PATH.painted("01."), "calmer #", -2, -2, -2);
        doc.say(22, "less by one is less");
        doc.dueRow(PATH.painted("02."), "calmer #", 1, 0, 1);
    }

    private void fan() {
        Scene scene = STAR.painted(".1234567");
        doc.say(23, "i NONE how many POSTS");
        doc.due(scene, "fan 0 0 -1", 8);
        doc.due(scene, "fan 0 1 -1", 1);
        doc.say(23, "0 on: the i-th");
        doc.dueRow(scene, "fan 0 0 #", 1, 2, 3, 4, 5, 6, 7, 8);
        doc.due(scene, "fan 0 1 0", 0);
        doc.say(23, "NONE: no such ones (no such i)");
        doc.dueBeyond(scene, "fan 0 0 #", -1, 7, NONE);
        doc.dueBeyond(scene, "fan 0 1 #", -1, 0, NONE);
        doc.say(23, "NONE: no such ones (no such LINE)");
        doc.dueBeyond(scene, "fan # 0 0", 0, 7, NONE);
        doc.dueBeyond(scene, "fan # 0 -1", 0, 7, NONE);
        doc.say(23, "NONE: no such ones (no such POST)");
        doc.dueBeyond(scene, "fan 0 # 0", 0, 8, NONE);
        doc.dueBeyond(scene, "fan 0 # -1", 0, 8, NONE);
        doc.say(23, "NONE: no such ones (no POST of it)");
        doc.dueRow(scene, "fan 0 # -1", 8, 1, NONE, NONE, NONE, NONE, NONE, NONE, NONE);
        doc.due(scene, "fan 0 2 0", NONE);
        doc.say(23, "-2: it has a COLOUR");
        doc.due(scene, "fan 1 0 -1", -2);
        doc.due(scene, "fan 1 0 0", -2);
        doc.due(scene, "fan 7 8 -1", -2);
    }

    private void first() {
        doc.say(25, "the FIRST by k (0 .. 9)");
        doc.dueRow(STAR, "first 8 #", 0, 1, 2, 3, 4, 5, 6, 7);
        doc.dueRow(STAR, "first 9 #", 0, 1, 2, 3, 4, 5, 6, 7);
        doc.say(25, "-2: there is none");
        doc.dueRow(STAR, "first # 7", -2, -2, -2, -2, -2, -2, -2, -2, 7, 7);
        doc.say(25, "NONE: no such k");
        doc.dueBeyond(STAR, "first # 0", 0, 9, NONE);
        doc.dueBeyond(PATH, "first # 2", 0, 9, NONE);
        doc.say(25, "NONE: no such LINE");
        doc.dueBeyond(STAR, "first 9 #", 0, 7, NONE);
        doc.dueBeyond(PATH, "first 2 #", 0, 2, NONE);
    }

    private void overfull() {
        Scene round = Scene.round(3);
        doc.say(26, "the set, how many LINES are within, how many at most should be");
        doc.dueRow(round, "overfull #", 7, 3, 2);
        doc.say(26, "NONE for others");
        doc.dueBeyond(round, "overfull #", 0, 2, NONE);
        doc.say(26, "more LINES within than DEGREE times half of its number, rounded down");
        doc.due(Scene.full(5, 9), "overfull 0", 31);
        doc.due(Scene.net(5, 0, 1, 0, 2, 0, 3, 0, 4, 1, 2, 1, 3, 2, 4, 3, 4), "overfull 0", -2);
        doc.say(26, "a set of POSTS, three at least");
        doc.due(Scene.net(9, 6, 7, 7, 8, 6, 8), "overfull 0", 448);
        doc.say(26, "-2: there is none");
        doc.dueRow(PATH, "overfull #", -2, -2, -2);
    }

    private void refused() {
        doc.say(27, "REFUSED by k (0 .. 9)");
        doc.dueRow(STAR, "refused # 0", 1, 1, 1, 1, 1, 1, 1, 1, 0, 0);
        doc.say(27, "a POST has more LINES than k (the least such POST)");
        doc.dueRow(PATH, "refused # 1", 0, 1, 0, 0);
        doc.say(27, "a set of POSTS has more LINES within than k times half of its number");
        doc.dueRow(Scene.round(5), "refused # 0", 1, 1, 2, 0);
        doc.dueRow(Scene.round(5), "refused # 1", 0, 0, 31, 0);
        doc.say(27, "else 3 there is no FIRST by k, else 0");
        doc.dueRow(HARD, "refused # 0", 1, 1, 1, 3, 0, 0, 0, 0, 0, 0);
        doc.say(27, "the POST, or the set (0: with 0, 3)");
        doc.dueRow(HARD, "refused # 1", 0, 0, 1, 0, 0, 0, 0, 0, 0, 0);
        doc.say(27, "NONE: no such k");
        doc.dueBeyond(STAR, "refused # 0", 0, 9, NONE);
        doc.dueBeyond(STAR, "refused # 1", 0, 9, NONE);
        doc.say(27, "NONE: no such what");
        doc.dueBeyond(STAR, "refused 0 #", 0, 1, NONE);
        doc.dueBeyond(STAR, "refused 9 #", 0, 1, NONE);
    }

    private void list() {
        doc.say(28, "A LINE's LIST: what it was (0 .. 511)");
        doc.dueRow(PATH, "list # 0", 511, 511, 511);
        doc.dueRow(PATH, "list # 511", 511, 511, 511);
        doc.due(PATH.then("list 2 0"), "list 2 511", 0);
        doc.say(28, "NONE: no such set");
        doc.dueBeyond(PATH, "list 0 #", 0, 511, NONE);
        doc.say(28, "NONE: no such LINE");
        doc.dueBeyond(PATH, "list # 0", 0, 2, NONE);
        doc.dueBeyond(STAR, "list # 511", 0, 7, NONE);
    }

    private void listed() {
        doc.say(29, "the COLOUR of a LINE, each by a COLOUR of its LIST (COLOURS 0 .. 8 as bits)");
        doc.dueRow(PATH, "listed #", 0, 1, 0);
        doc.dueRow(PATH.then("list 0 256; list 1 1; list 2 256"), "listed #", 8, 0, 8);
        doc.say(29, "NONE: no such LINE");
        doc.dueBeyond(PATH, "listed #", 0, 2, NONE);
        doc.dueBeyond(STAR, "listed #", 0, 7, NONE);
        doc.say(29, "-2: there is none");
        doc.dueRow(PATH.then("list 2 0"), "listed #", -2, -2, -2);
        doc.dueRow(PATH.then("list 1 4; list 2 4"), "listed #", -2, -2, -2);
    }

    private void longest() {
        doc.say(31, "how many, the COLOURS, its least LINE");
        doc.dueRow(PAINTED_PATH, "longest #", 3, 0, 1, 0);
        doc.dueRow(STAR.painted(".......8"), "longest #", 1, 0, 8, 7);
        doc.say(31, "NONE for others");
        doc.dueBeyond(PAINTED_PATH, "longest #", 0, 3, NONE);
        doc.say(31, "-2: there is none");
        doc.dueRow(PATH, "longest #", -2, -2, -2, -2);
    }

    private void sets() {
        doc.say(32, "sets of m LINES (0 .. 4) APART");
        doc.dueRow(Scene.path(9), "sets #", 1, 8, 21, 20, 5);
        doc.say(32, "NONE: no such m");
        doc.dueBeyond(Scene.path(9), "sets #", 0, 4, NONE);
        doc.dueBeyond(PATH, "sets #", 0, 4, NONE);
    }

    private void kinds() {
        doc.say(34, "KINDS by k (1 .. 4)");
        doc.due(PATH, "kinds 1", 0);
        doc.due(Scene.net(4, 0, 1, 2, 3), "kinds 1", 1);
        doc.due(PATH, "kinds 4", 1);
        doc.say(34, "NONE: no such k");
        doc.dueBeyond(PATH, "kinds #", 1, 4, NONE);
    }

    private void turns() {
        Scene one = Scene.net(4, 0, 1, 2, 3).painted("00").then("keep");
        Scene four = Scene.star(4).painted("0123").then("keep");
        doc.say(35, "COLOURS below k (1 .. 4)");
        doc.due(one, "turns 1", 0);
        doc.due(four, "turns 4", 0);
        doc.due(four.then("swap 3 0"), "turns 4", 1);
        doc.say(35, "NONE: others (no such k)");
        doc.dueBeyond(one, "turns #", 1, 4, NONE);
        doc.dueBeyond(four, "turns #", 1, 4, NONE);
        doc.say(35, "all with such COLOURS as it is now");
        doc.due(one.then("paint 1 1"), "turns 1", NONE);
        doc.due(one.then("paint 1 1"), "turns 2", 1);
        doc.due(four.then("paint 0 4"), "turns 4", NONE);
        doc.say(35, "all with such COLOURS as it was KEPT");
        doc.due(one.then("paint 1 1; keep; paint 1 0"), "turns 1", NONE);
        doc.due(one.then("paint 1 1; keep; paint 1 0"), "turns 2", 1);
        doc.due(four.then("paint 0 4; keep; paint 0 0"), "turns 4", NONE);
        doc.say(35, "-2: it can't");
        Scene two = Scene.net(5, 0, 2, 0, 3, 0, 4, 1, 2, 1, 3, 1, 4).painted("012120").then("keep");
        doc.due(two.then("bare 3; bare 4; bare 5").painted("...201"), "turns 3", -2);
    }

    private void sides() {
        doc.say(37, "whether there are, POSTS of the one part, of how many POSTS the least odd round is");
        doc.dueRow(PATH, "sides #", 1, 5, 0);
        doc.say(37, "1: -2, if there are no SIDES");
        doc.dueRow(Scene.round(3), "sides #", 0, -2, 3);
        doc.dueRow(Scene.round(9), "sides #", 0, -2, 9);
        doc.say(37, "NONE for others");
        doc.dueBeyond(PATH, "sides #", 0, 2, NONE);
        doc.dueBeyond(Scene.round(3), "sides #", 0, 2, NONE);
    }

    private void apart() {
        doc.say(38, "the most there can be, the least such set");
        doc.dueRow(PATH, "apart #", 2, 5);
        doc.dueRow(Scene.path(9), "apart #", 4, 1 | 4 | 16 | 64);
        doc.say(38, "NONE for others");
        doc.dueBeyond(PATH, "apart #", 0, 1, NONE);
    }

    private void ways() {
        doc.say(39, "WAYS by k (0 .. 9)");
        doc.dueRow(PATH, "ways #", 0, 0, 2, 12, 36, 80, 150, 252, 392, 576);
        doc.dueRow(STAR, "ways #", 0, 0, 0, 0, 0, 0, 0, 0, 40320, 362880);
        doc.say(39, "NONE: no such k");
        doc.dueBeyond(PATH, "ways #", 0, 9, NONE);
    }

    private void unlike() {
        Scene kept = PAINTED_PATH.then("keep; bare 2");
        doc.say(40, "how many LINES are UNLIKE, whether both are LIKE");
        doc.dueRow(kept, "unlike #", 1, 0);
        doc.say(40, "LINES without COLOUR the same: one that alone has none in one of both");
        doc.due(Scene.path(2).then("keep; paint 0 0"), "unlike 1", 0);
        doc.due(Scene.path(2).then("paint 0 0; keep; bare 0"), "unlike 1", 0);
        doc.due(Scene.path(2).then("paint 0 0; keep; paint 0 1"), "unlike 1", 1);
        doc.say(40, "some exchange of COLOURS: no two become one, no one becomes two");
        doc.due(PATH.painted("012").then("keep; paint 2 0"), "unlike 1", 0);
        doc.due(PATH.painted("010").then("keep; paint 2 2"), "unlike 1", 0);
        doc.due(PATH.painted("010").then("keep; swap 0 1; swap 0 2"), "unlike 1", 1);
        doc.say(40, "NONE for others");
        doc.dueBeyond(kept, "unlike #", 0, 1, NONE);
    }

    private void count() {
        Scene scene = Scene.net(5, 0, 1, 1, 2, 2, 3, 3, 4).painted("01..").then("keep");
        doc.say(41, "0 POSTS .. 7 LINES without COLOUR at both POSTS of which one below DEGREE is FREE");
        doc.dueRow(scene, "count #", 5, 4, 2, 2, 2, 0, 1, 2);
        doc.say(41, "one below DEGREE (DEGREE itself is none)");
        doc.due(Scene.path(4).painted("0.1"), "count 7", 0);
        doc.due(Scene.path(4).painted("0.1"), "free 1", 4);
        doc.say(41, "NONE for others");
        doc.dueBeyond(scene, "count #", 0, 7, NONE);
    }
}
