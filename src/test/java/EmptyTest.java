/** Calls where there is nothing: on a new object, without lines, without colours, with nothing kept or grown. */
public final class EmptyTest {
    private static final int NONE = Sentences.NONE;
    private static final Scene NEW = Scene.NEW;
    private static final Scene POSTS = Scene.net(9);
    private static final Scene BARE = Scene.path(4);

    private final Sentences doc = new Sentences();

    public static void main(String[] args) {
        EmptyTest test = new EmptyTest();
        test.newObject();
        test.changesWithoutLines();
        test.looksWithoutLines();
        test.fewestWithoutLines();
        test.postsWithoutLines();
        test.keptWithoutLines();
        test.changesWithoutColours();
        test.looksWithoutColours();
        test.fewestWithoutColours();
        test.nothingGrown();
        test.nothingKept();
        test.emptyLists();
        test.partlyEmpty();
        test.doc.end();
    }

    private void newObject() {
        doc.say(1, "One POST");
        doc.due(NEW, "count 0", 1);
        doc.dueRow(NEW, "post # 0", 0, NONE);
        doc.dueRow(NEW, "idle #", 0, -2);
        doc.say(1, "no LINES");
        doc.due(NEW, "count 1", 0);
        doc.due(NEW, "of 0 0", NONE);
        doc.due(NEW, "free 0", NONE);
        doc.say(1, "nothing KEPT");
        doc.due(NEW, "count 6", 0);
        doc.due(NEW, "back", NONE);
        doc.due(NEW, "unlike 0", -2);
        doc.say(1, "a new object is as after begin(1)");
        doc.dueSame(NEW, Scene.of("begin 1"));
    }

    private void changesWithoutLines() {
        doc.say(3, "NONE: one POST has no unlike one");
        doc.due(NEW, "line 0 0", NONE);
        doc.due(NEW, "line 0 1", NONE);
        doc.say(4, "false: no such LINE, without LINES");
        doc.due(NEW, "paint 0 0", 0);
        doc.due(POSTS, "paint 0 0", 0);
        doc.say(5, "NONE: no such one, without LINES");
        doc.due(NEW, "bare 0", NONE);
        doc.say(6, "NONE: no two COLOURS, without LINES (0 .. DEGREE is 0 alone)");
        doc.due(NEW, "turn 0 0 1", NONE);
        doc.due(NEW, "turn 0 1 0", NONE);
        doc.due(NEW, "turn 0 0 0", NONE);
        doc.say(7, "NONE: no two COLOURS, without LINES");
        doc.due(NEW, "swap 0 1", NONE);
        doc.due(NEW, "swap 0 0", NONE);
        doc.say(8, "NONE: no such one, without LINES");
        doc.due(NEW, "grow 0", NONE);
        doc.say(9, "how many had none: 0, without LINES");
        doc.due(NEW, "growAll", 0);
        doc.due(POSTS, "growAll", 0);
        doc.say(10, "PAIRED: how many LINES: 0, without LINES");
        doc.due(NEW, "pair", 0);
        doc.due(POSTS, "pair", 0);
        doc.say(11, "EVEN: how many CHAINS were TURNED: 0, without LINES");
        doc.due(NEW, "even", 0);
        doc.due(POSTS, "even", 0);
        doc.say(12, "All LINES are as in the FIRST by k: true, without LINES, by 0 and by 1");
        doc.dueRow(NEW, "take #", 1, 1, 0);
        doc.dueRow(POSTS, "take #", 1, 1, 0);
        doc.due(NEW, "take -1", 0);
        doc.say(28, "NONE: no such LINE, without LINES");
        doc.due(NEW, "list 0 0", NONE);
        doc.due(NEW, "list 0 511", NONE);
    }

    private void looksWithoutLines() {
        doc.say(16, "NONE for others, without LINES");
        doc.dueRow(NEW, "of 0 #", NONE, NONE, NONE, NONE, NONE);
        doc.say(17, "NONE: no such LINE, without LINES");
        doc.due(NEW, "clash 0 0", NONE);
        doc.say(18, "how many LINES, COLOURS of these, the least FREE one, NONE: none has one");
        doc.dueRow(NEW, "post 0 #", 0, 0, 0, NONE, NONE);
        doc.dueRow(NEW, "post 1 #", NONE, NONE, NONE, NONE);
        doc.say(19, "COLOUR 0 alone, which no LINE has and all POSTS lack");
        doc.dueRow(NEW, "colour 0 #", 0, 0, 1, NONE);
        doc.dueRow(NEW, "colour 1 #", NONE, NONE, NONE);
        doc.say(20, "NONE: no two COLOURS, without LINES");
        doc.dueRow(NEW, "chain 0 0 1 #", NONE, NONE, NONE, NONE, NONE);
        doc.due(NEW, "chain 0 0 0 0", NONE);
        doc.say(21, "(0: none has)");
        doc.due(NEW, "idle 0", 0);
        doc.due(NEW, "idle -1", 0);
        doc.say(22, "-2: by none it would be less, without LINES");
        doc.dueRow(NEW, "calmer #", -2, -2, -2, NONE);
        doc.say(23, "NONE: no such LINE, without LINES");
        doc.due(NEW, "fan 0 0 -1", NONE);
        doc.due(NEW, "fan 0 0 0", NONE);
    }

    private void fewestWithoutLines() {
        doc.say(24, "INDEX (0 without LINES)");
        doc.due(NEW, "index", 0);
        doc.due(POSTS, "index", 0);
        doc.say(25, "NONE: no such LINE, without LINES");
        doc.due(NEW, "first 0 0", NONE);
        doc.due(NEW, "first 9 0", NONE);
        doc.say(26, "-2: there is none, without LINES");
        doc.dueRow(NEW, "overfull #", -2, -2, -2, NONE);
        doc.dueRow(POSTS, "overfull #", -2, -2, -2, NONE);
        doc.say(27, "else 0, without LINES even by 0");
        doc.dueRow(NEW, "refused # 0", 0, 0, 0, 0, 0, 0, 0, 0, 0, 0, NONE);
        doc.dueRow(POSTS, "refused # 1", 0, 0, 0, 0, 0, 0, 0, 0, 0, 0, NONE);
        doc.say(29, "NONE: no such LINE, without LINES");
        doc.due(NEW, "listed 0", NONE);
        doc.say(30, "NONE: no such one, without LINES");
        doc.due(NEW, "free 0", NONE);
        doc.say(31, "-2: there is none, without LINES");
        doc.dueRow(NEW, "longest #", -2, -2, -2, -2, NONE);
        doc.say(32, "the empty set is APART, without LINES it alone");
        doc.dueRow(NEW, "sets #", 1, 0, 0, 0, 0, NONE);
        doc.dueRow(POSTS, "sets #", 1, 0, 0, 0, 0, NONE);
        doc.say(33, "CRITICAL: none, without LINES");
        doc.due(NEW, "critical", 0);
        doc.say(34, "one colouring and one KIND, without LINES");
        doc.dueRow(NEW, "kinds #", NONE, 1, 1, 1, 1, NONE);
        doc.say(36, "NONE: no two COLOURS, without LINES");
        doc.due(NEW, "chains 0 1", NONE);
        doc.due(NEW, "chains 0 0", NONE);
        doc.say(38, "the most there can be: 0, the empty set");
        doc.dueRow(NEW, "apart #", 0, 0, NONE);
        doc.say(39, "one colouring, without LINES");
        doc.dueRow(NEW, "ways #", 1, 1, 1, 1, 1, 1, 1, 1, 1, 1, NONE);
        doc.say(41, "0 without");
        doc.dueRow(NEW, "count #", 1, 0, 0, 0, 0, 0, 0, 0, NONE);
    }

    private void postsWithoutLines() {
        doc.say(37, "of each part of the network that hangs together that with its least POST: each POST is one");
        doc.dueRow(NEW, "sides #", 1, 1, 0);
        doc.dueRow(POSTS, "sides #", 1, 511, 0);
        doc.say(19, "POSTS that lack it: all");
        doc.due(POSTS, "colour 0 2", 511);
        doc.say(18, "Of a POST without LINES");
        doc.dueRow(POSTS, "post 8 #", 0, 0, 0, NONE);
        doc.dueRow(Scene.net(3, 0, 1).painted("0"), "post 2 #", 0, 0, 0, NONE);
        doc.say(21, "IDLE of a POST without LINES");
        doc.due(POSTS, "idle 8", 0);
        doc.due(POSTS, "idle -1", 0);
        doc.say(41, "POSTS without LINES");
        doc.dueRow(POSTS, "count #", 9, 0, 0, 0, 0, 0, 0, 0, NONE);
    }

    private void keptWithoutLines() {
        Scene kept = NEW.then("keep");
        doc.say(13, "The colouring is KEPT, without LINES too");
        doc.due(NEW, "keep", 1);
        doc.due(kept, "count 6", 1);
        doc.say(14, "how many were UNLIKE: 0, without LINES");
        doc.due(kept, "back", 0);
        doc.say(35, "The fewest TURNED CHAINS: 0, without LINES");
        doc.dueRow(kept, "turns #", NONE, 0, 0, 0, 0, NONE);
        doc.say(40, "none UNLIKE, both LIKE, without LINES");
        doc.dueRow(kept, "unlike #", 0, 1, NONE);
    }

    private void changesWithoutColours() {
        doc.say(5, "NONE: none");
        doc.dueRow(BARE, "bare #", NONE, NONE, NONE, NONE);
        doc.due(BARE.painted(".0."), "bare 0", NONE);
        doc.due(BARE.painted(".0.").then("bare 1"), "bare 1", NONE);
        doc.say(6, "A CHAIN is TURNED: how many LINES: 0");
        doc.dueRow(BARE, "turn # 0 1", 0, 0, 0, 0, NONE);
        doc.dueColours(BARE.then("turn 1 0 1"), "...");
        doc.say(7, "how many LINES have another one then: 0");
        doc.due(BARE, "swap 0 2", 0);
        doc.dueColours(BARE.then("swap 0 2"), "...");
        doc.say(9, "how many had none: 0, where all have one");
        doc.due(BARE.painted("010"), "growAll", 0);
        doc.dueColours(BARE.painted("010").then("growAll"), "010");
        doc.say(10, "all LINES lose their COLOURS: none to lose");
        doc.due(BARE, "pair", 3);
        doc.dueColours(BARE.then("pair"), "010");
        doc.say(11, "how many CHAINS were TURNED: 0, without COLOURS");
        doc.due(BARE, "even", 0);
        doc.dueColours(BARE.then("even"), "...");
    }

    private void looksWithoutColours() {
        doc.say(16, "its COLOUR (-2: none)");
        doc.dueRow(BARE, "of # 2", -2, -2, -2, NONE);
        doc.say(16, "LINES that share a POST with it: none");
        doc.due(Scene.net(4, 0, 1, 2, 3), "of 1 3", 0);
        doc.say(17, "-2: none");
        doc.dueRow(BARE, "clash 1 #", -2, -2, -2, NONE);
        doc.say(18, "that of its LINES with the greatest COLOUR (NONE: none has one)");
        doc.dueRow(BARE, "post # 3", NONE, NONE, NONE, NONE);
        doc.due(BARE.painted("0.."), "post 2 3", NONE);
        doc.due(BARE.painted("0.."), "post 1 3", 0);
        doc.say(19, "COLOURS that none has");
        doc.dueRow(BARE, "colour 2 #", 0, 0, 15, NONE);
        doc.say(20, "its POSTS (bits, the first one, too), where it has no LINE");
        doc.dueRow(BARE, "chain 1 0 1 #", 0, 2, 0, 0, -2);
        doc.say(21, "(0: none has)");
        doc.dueRow(BARE, "idle #", 0, 0, 0, 0, -2);
        doc.due(BARE, "idle -1", 0);
        doc.say(22, "-2: by none it would be less, without COLOURS");
        doc.dueRow(BARE, "calmer #", -2, -2, -2, NONE);
        doc.say(23, "till there is none: the other POST alone, without COLOURS");
        doc.due(BARE, "fan 1 1 -1", 1);
        doc.dueRow(BARE, "fan 1 1 #", 2, NONE);
        doc.dueRow(BARE, "fan 1 2 #", 1, NONE);
        doc.say(30, "COLOURS FREE at both POSTS of a LINE: all; none");
        doc.dueRow(BARE, "free #", 7, 7, 7, NONE);
        doc.due(Scene.round(3).painted("012"), "free 0", 0);
        doc.say(31, "-2: there is none, without COLOURS");
        doc.dueRow(BARE, "longest #", -2, -2, -2, -2, NONE);
        doc.say(36, "CHAINS with a LINE each: none");
        doc.due(BARE, "chains 0 1", 0);
        doc.due(BARE.painted("2.."), "chains 0 1", 0);
        doc.say(41, "LINES without COLOUR, COLOURS that are used, (among used ones; 0 without)");
        doc.dueRow(BARE, "count #", 4, 3, 2, 3, 0, 0, 0, 3, NONE);
    }

    private void fewestWithoutColours() {
        for (Scene scene : new Scene[] {BARE, BARE.painted("2.."), BARE.painted("120")}) {
            doc.say(24, "how few do: no matter which LINES have COLOURS (INDEX, FIRST, CRITICAL)");
            doc.due(scene, "index", 2);
            doc.dueRow(scene, "first 2 #", 0, 1, 0, NONE);
            doc.due(scene, "critical", 2);
            doc.say(27, "how few do: no matter which LINES have COLOURS (REFUSED, OVERFULL)");
            doc.dueRow(scene, "refused # 0", 1, 1, 0);
            doc.dueRow(scene, "overfull #", -2, -2, -2);
            doc.say(29, "how few do: no matter which LINES have COLOURS (LISTED)");
            doc.dueRow(scene, "listed #", 0, 1, 0, NONE);
            doc.say(32, "how few do: no matter which LINES have COLOURS (APART)");
            doc.dueRow(scene, "sets #", 1, 3, 1, 0, 0, NONE);
            doc.dueRow(scene, "apart #", 2, 5, NONE);
            doc.say(34, "how few do: no matter which LINES have COLOURS (KINDS, WAYS)");
            doc.dueRow(scene, "kinds #", NONE, 0, 1, 1, 1, NONE);
            doc.dueRow(scene, "ways #", 0, 0, 2, 12);
            doc.say(37, "how few do: no matter which LINES have COLOURS (SIDES)");
            doc.dueRow(scene, "sides #", 1, 5, 0, NONE);
        }
    }

    private void nothingGrown() {
        doc.say(15, "NONE: there was none");
        doc.dueRow(NEW, "grown #", NONE, NONE, NONE, NONE, NONE, NONE);
        doc.dueRow(BARE.painted("010"), "grown #", NONE, NONE, NONE, NONE, NONE, NONE);
        doc.say(15, "there was none by a grow() that was refused");
        doc.due(BARE.painted("010").then("grow 0"), "grown 0", NONE);
        doc.due(BARE.then("grow 3"), "grown 0", NONE);
        doc.say(15, "there was none by a growAll() of none");
        doc.due(BARE.painted("010").then("growAll"), "grown 0", NONE);
        doc.due(NEW.then("growAll"), "grown 0", NONE);
        doc.say(15, "by grow(), growAll(): not by pair(), take(), back()");
        doc.due(BARE.then("pair"), "grown 0", NONE);
        doc.due(BARE.then("take 2"), "grown 0", NONE);
        doc.due(BARE.then("pair; keep; back"), "grown 0", NONE);
        doc.say(15, "by growAll(): the last one that had none");
        doc.dueRow(BARE.painted("..1").then("growAll"), "grown #", 1, 1, 2, 1, 0);
    }

    private void nothingKept() {
        Scene painted = BARE.painted("010");
        doc.say(14, "NONE: nothing is KEPT");
        doc.due(painted, "back", NONE);
        doc.dueColours(painted.then("back"), "010");
        doc.say(35, "NONE: nothing is KEPT");
        doc.dueRow(painted, "turns #", NONE, NONE, NONE, NONE, NONE);
        doc.dueRow(BARE, "turns #", NONE, NONE, NONE, NONE, NONE);
        doc.say(40, "-2: nothing is KEPT");
        doc.dueRow(painted, "unlike #", -2, -2);
        doc.dueRow(BARE, "unlike #", -2, -2);
        doc.say(41, "whether something is KEPT");
        doc.due(painted, "count 6", 0);
        doc.due(painted.then("back; unlike 0; turns 2"), "count 6", 0);
        doc.say(40, "KEPT without COLOURS, and LINES without COLOUR the same");
        doc.dueRow(BARE.then("keep"), "unlike #", 0, 1);
        doc.dueRow(BARE.then("keep").painted("0.."), "unlike #", 1, 0);
        doc.say(35, "NONE: others (LINES have no COLOUR in both)");
        doc.dueRow(BARE.then("keep"), "turns #", NONE, NONE, NONE, NONE, NONE);
    }

    private void emptyLists() {
        doc.say(29, "each by a COLOUR of its LIST: an empty one has none");
        doc.dueRow(Scene.path(2).then("list 0 0"), "listed #", -2, NONE);
        doc.say(29, "all 9 as it comes");
        doc.dueRow(Scene.star(8), "listed #", 0, 1, 2, 3, 4, 5, 6, 7, NONE);
        doc.say(25, "LISTS are for LISTED alone");
        doc.dueRow(BARE.then("list 0 0; list 1 0"), "first 2 #", 0, 1, 0);
        doc.due(BARE.then("list 0 0; list 1 0"), "take 2", 1);
    }

    private void partlyEmpty() {
        doc.say(35, "all with such COLOURS in both: one as it is now has none");
        doc.due(BARE.painted("010").then("keep; bare 2"), "turns 2", NONE);
        doc.say(35, "all with such COLOURS in both: one as it was KEPT has none");
        doc.due(BARE.painted("01.").then("keep; paint 2 0"), "turns 2", NONE);
        doc.say(14, "LINES are as in what is KEPT, without COLOUR too");
        doc.due(BARE.painted(".1.").then("keep; paint 0 0; bare 1"), "back", 2);
        doc.dueColours(BARE.painted(".1.").then("keep; paint 0 0; bare 1; back"), ".1.");
        doc.say(41, "the most LINES of one COLOUR less the fewest (among used ones)");
        doc.due(BARE.painted("1.1"), "count 5", 0);
        doc.due(BARE.painted("101"), "count 5", 1);
        doc.say(11, "among COLOURS 0 to the greatest one that a LINE has: a COLOUR above it is none of them");
        doc.due(BARE.painted("0.0"), "even", 0);
        doc.say(11, "among COLOURS 0 to the greatest one that a LINE has: one below it that none has is one of them");
        doc.due(BARE.painted("1.1"), "even", 1);
        doc.dueColours(BARE.painted("1.1").then("even"), "0.1");
        doc.say(11, "two more: one more is not enough");
        doc.due(BARE.painted("..1"), "even", 0);
        doc.due(BARE.painted("010"), "even", 0);
    }
}
