/** What begins anew: begin(), keep() in place of the one ahead, lines that came since. */
public final class AnewTest {
    private static final int NONE = Sentences.NONE;
    /** Everything that a begin() must sweep away is there. */
    private static final Scene USED = Scene.net(6, 0, 1, 1, 2, 2, 0, 2, 3, 3, 4, 0, 5).painted("01.2..")
            .then("list 0 1; list 1 1; list 2 0; keep; growAll; turn 0 0 1; index; critical; first 4 0; listed 0");
    private static final Scene TWENTY = Scene.full(7, 20).then("growAll; keep; list 0 0; critical; take 7");

    private final Sentences doc = new Sentences();

    public static void main(String[] args) {
        AnewTest test = new AnewTest();
        test.begin();
        test.beginWithLines();
        test.keepInPlace();
        test.linesSince();
        test.grownLast();
        test.growingNetwork();
        test.doc.end();
    }

    private void begin() {
        doc.say(2, "All begins anew with n POSTS");
        for (int n = 1; n <= 9; n++) {
            doc.due(USED.then("begin " + n), "count 0", n);
            doc.dueSame(USED.then("begin " + n), Scene.net(n));
        }
        doc.dueSame(TWENTY.then("begin 9"), Scene.net(9));
        Scene again = USED.then("begin 6");
        doc.say(2, "All begins anew: no LINES");
        doc.due(again, "count 1", 0);
        doc.due(again, "line 0 1", 0);
        doc.say(2, "All begins anew: DEGREE and COLOURS");
        doc.due(again, "count 2", 0);
        doc.dueRow(again, "colour # 0", 0, NONE, NONE, NONE);
        doc.say(2, "All begins anew: nothing KEPT");
        doc.due(again, "count 6", 0);
        doc.due(again, "back", NONE);
        doc.dueRow(again, "unlike #", -2, -2);
        doc.dueRow(again, "turns #", NONE, NONE, NONE, NONE, NONE);
        doc.say(2, "All begins anew: INDEX, CRITICAL");
        doc.due(again, "index", 0);
        doc.due(again, "critical", 0);
        doc.say(15, "since begin()");
        doc.dueRow(again, "grown #", NONE, NONE, NONE, NONE, NONE);
        doc.say(2, "begin() with as many POSTS as there are begins anew, too");
        doc.dueSame(Scene.path(4).painted("010").then("keep; begin 4"), Scene.net(4));
    }

    private void beginWithLines() {
        String lines = "line 0 1; line 1 2; line 2 3; line 0 3";
        Scene again = USED.then("begin 4; " + lines);
        doc.say(2, "All begins anew: LINES laid behind it are as on a new object");
        doc.dueSame(again, Scene.of("begin 4; " + lines));
        doc.dueSame(TWENTY.then("begin 4; " + lines), Scene.of("begin 4; " + lines));
        doc.dueSame(USED.then("begin 4; " + lines + "; growAll; keep"), Scene.of("begin 4; " + lines + "; growAll; keep"));
        doc.say(2, "All begins anew: each has none (as it comes)");
        doc.dueRow(again, "of # 2", -2, -2, -2, -2);
        doc.say(2, "All begins anew: LIST, all 9 as it comes");
        doc.dueRow(again, "list # 0", 511, 511, 511, 511);
        doc.dueRow(again, "listed #", 0, 1, 0, 1);
        doc.say(2, "All begins anew: LINES that share a POST");
        doc.dueRow(again, "of # 3", 10, 5, 10, 5);
        doc.say(2, "All begins anew: SIDES, FIRST");
        doc.dueRow(again, "sides #", 1, 5, 0);
        doc.dueRow(again, "first 2 #", 0, 1, 0, 1);
        doc.say(13, "KEPT behind begin() has nothing of before");
        doc.dueRow(USED.then("begin 4; keep; " + lines), "unlike #", 0, 1);
        doc.due(USED.then("begin 4; keep; " + lines), "back", 0);
    }

    private void keepInPlace() {
        Scene twice = Scene.path(4).painted("010").then("keep; bare 0; paint 1 2; keep");
        doc.say(13, "The colouring is KEPT in place of the one ahead");
        doc.due(twice, "unlike 0", 0);
        doc.due(twice, "back", 0);
        doc.dueColours(twice.then("bare 1; paint 0 1; back"), ".20");
        doc.due(twice.then("bare 1; paint 0 1"), "back", 2);
        doc.say(13, "keep(): true each time");
        doc.due(twice, "keep", 1);
        doc.due(twice.then("keep"), "count 6", 1);
        doc.say(13, "what is KEPT stays as it was, whatever is painted");
        doc.dueColours(Scene.path(4).painted("010").then("keep; swap 0 2; even; pair; take 3; bare 0; back"), "010");
        doc.say(14, "what is KEPT is KEPT still behind back()");
        doc.due(twice.then("back"), "count 6", 1);
        doc.due(twice.then("back; paint 0 1"), "back", 1);
    }

    private void linesSince() {
        Scene since = Scene.net(4, 0, 1, 1, 2).painted("01").then("keep; line 2 3");
        doc.say(40, "LINES that came since have none in it: without COLOUR now they are not UNLIKE");
        doc.dueRow(since, "unlike #", 0, 1);
        doc.say(40, "LINES that came since have none in it: with a COLOUR now they are UNLIKE");
        doc.dueRow(since.then("paint 2 0"), "unlike #", 1, 0);
        doc.say(14, "LINES that came since have none in it: back() bares them");
        doc.due(since.then("paint 2 0"), "back", 1);
        doc.dueColours(since.then("paint 2 0; back"), "01.");
        doc.say(35, "LINES that came since have none in it: not all have COLOURS in both");
        doc.due(since, "turns 2", NONE);
        doc.due(since.then("paint 2 0"), "turns 2", NONE);
        doc.due(since.then("paint 2 0; keep"), "turns 2", 0);
        doc.say(40, "what was KEPT without LINES has none in it for any");
        doc.dueRow(Scene.of("begin 3; keep; line 0 1; line 1 2; growAll"), "unlike #", 2, 0);
        doc.say(14, "what was KEPT without LINES has none in it for any: back() bares all");
        doc.due(Scene.of("begin 3; keep; line 0 1; line 1 2; growAll"), "back", 2);
        doc.dueColours(Scene.of("begin 3; keep; line 0 1; line 1 2; growAll; back"), "..");
        doc.say(40, "all 20 came since");
        doc.due(Scene.net(7).then("keep").then(laid()).then("growAll"), "unlike 0", 20);
    }

    private static String laid() {
        String all = Scene.full(7, 20).toString();
        return all.substring(all.indexOf("line"));
    }

    private void grownLast() {
        Scene grown = Scene.net(4, 0, 1, 0, 2, 0, 3, 1, 2).painted(".012").then("grow 0");
        doc.say(15, "Of the LINE that was GROWN last: no call but grow(), growAll(), begin() makes it another");
        doc.dueRow(grown.then("bare 0; bare 1; paint 0 0; turn 0 0 1; swap 0 1; keep; even; take 3; back"), "grown #", 2, 0, 3, 2, 2);
        doc.say(15, "the LINE that was GROWN last, not the first");
        doc.dueRow(grown.then("bare 1; bare 2; grow 2"), "grown #", 0, 1, 2, 0, 0);
        doc.say(15, "GROWN again behind begin()");
        doc.dueRow(grown.then("begin 2; line 0 1; growAll"), "grown #", 0, 0, 1, 0, 0);
        doc.say(15, "a begin() that is refused sweeps nothing away");
        doc.due(grown.then("begin 10"), "grown 0", 2);
    }

    private void growingNetwork() {
        doc.say(24, "INDEX as LINES come");
        doc.due(Scene.path(3).then("index"), "index", 2);
        doc.due(Scene.path(3).then("index; line 0 2"), "index", 3);
        doc.say(25, "FIRST as LINES come");
        doc.due(Scene.path(3).then("first 2 0; line 0 2"), "first 2 0", -2);
        doc.due(Scene.path(3).then("first 3 0; line 0 2"), "first 3 2", 2);
        doc.say(33, "CRITICAL as LINES come");
        doc.due(Scene.path(4).then("critical"), "critical", 2);
        doc.due(Scene.path(4).then("critical; line 0 2"), "critical", 10);
        doc.say(29, "LISTED as LISTS and LINES come");
        doc.dueRow(Scene.path(4).then("listed 0; list 0 2"), "listed #", 1, 0, 1);
        doc.dueRow(Scene.path(4).then("listed 0; line 0 2"), "listed #", 0, 1, 0, 2);
        doc.say(25, "FIRST and LISTED told by turns");
        doc.dueRow(Scene.path(4).then("list 0 2; first 3 0; listed 0"), "first 3 #", 0, 1, 0);
        doc.dueRow(Scene.path(4).then("list 0 2; listed 0; first 3 0"), "listed #", 1, 0, 1);
        doc.say(22, "-2: by none it would be less, once it was SWAPPED");
        doc.due(Scene.path(4).painted("020"), "calmer 0", 2);
        doc.due(Scene.path(4).painted("020").then("calmer 0; swap 0 1"), "calmer 0", -2);
        doc.say(4, "COLOURS that LINES have stay as LINES come");
        doc.dueColours(Scene.path(3).painted("02").then("line 0 2"), "02.");
    }
}
