/** For each promise ordinary inputs, the edges that the document names, and wrong inputs, worked out by hand. */
public final class PromiseTest {
    private static final int NONE = LineColours.NONE;
    private static final int LEAST = Integer.MIN_VALUE;
    private static final int GREATEST = Integer.MAX_VALUE;
    /** Petersen's net without a post: no odd set is too full, yet three colours don't do. */
    private static final int[] PETERSEN_LESS_ONE =
            {0, 1, 1, 2, 2, 3, 0, 5, 1, 6, 2, 7, 3, 8, 4, 6, 4, 7, 5, 7, 5, 8, 6, 8};

    private final Check check = new Check();
    private int promise = 0;

    public static void main(String[] args) {
        PromiseTest test = new PromiseTest();
        test.newObject();
        test.laying();
        test.painting();
        test.turningByHand();
        test.growing();
        test.growingByFanAndChain();
        test.pairing();
        test.evening();
        test.takingAndKeeping();
        test.looking();
        test.lookingAtChains();
        test.idling();
        test.fanning();
        test.fewest();
        test.refusing();
        test.listing();
        test.chainsOfAll();
        test.counting();
        test.kindsAndTurns();
        test.shape();
        test.comparing();
        test.check.end();
    }

    private void due(String call, long got, long want) {
        check.due("promise " + promise + ": " + call, got, want);
    }

    private void due(String call, boolean got, boolean want) {
        check.due("promise " + promise + ": " + call, got, want);
    }

    private static LineColours net(int posts, int... ends) {
        LineColours x = new LineColours();
        x.begin(posts);
        for (int i = 0; i + 1 < ends.length; i += 2) {
            x.line(ends[i], ends[i + 1]);
        }
        return x;
    }

    private static LineColours path(int posts) {
        LineColours x = new LineColours();
        x.begin(posts);
        for (int post = 1; post < posts; post++) {
            x.line(post - 1, post);
        }
        return x;
    }

    private static LineColours round(int posts) {
        LineColours x = path(posts);
        x.line(posts - 1, 0);
        return x;
    }

    private static LineColours star(int rays) {
        LineColours x = new LineColours();
        x.begin(rays + 1);
        for (int post = 1; post <= rays; post++) {
            x.line(0, post);
        }
        return x;
    }

    private static LineColours full(int posts) {
        LineColours x = new LineColours();
        x.begin(posts);
        for (int a = 0; a < posts; a++) {
            for (int b = a + 1; b < posts; b++) {
                x.line(a, b);
            }
        }
        return x;
    }

    /** The colours of the first lines, a digit each, a point for none. */
    private static String colours(LineColours x) {
        StringBuilder told = new StringBuilder();
        for (int line = 0; line < x.count(1); line++) {
            int colour = x.of(line, 2);
            told.append(colour < 0 ? "." : Integer.toString(colour));
        }
        return told.toString();
    }

    private void dueColours(String after, LineColours x, String want) {
        String got = colours(x);
        if (!got.equals(want)) {
            check.fail("promise " + promise + ": colours after " + after + " are " + got + ", due is " + want);
        }
    }

    private static void paintAll(LineColours x, String colours) {
        for (int line = 0; line < colours.length(); line++) {
            x.bare(line);
        }
        for (int line = 0; line < colours.length(); line++) {
            if (colours.charAt(line) != '.') {
                x.paint(line, colours.charAt(line) - '0');
            }
        }
    }

    private void newObject() {
        promise = 1;
        LineColours x = new LineColours();
        due("NONE", NONE, -1);
        due("posts", x.count(0), 1);
        due("lines", x.count(1), 0);
        due("kept", x.count(6), 0);
        due("back()", x.back(), NONE);
        due("grown(0)", x.grown(0), NONE);
        due("post(0, 0)", x.post(0, 0), 0);
        due("post(1, 0)", x.post(1, 0), NONE);
    }

    private void laying() {
        promise = 2;
        LineColours x = path(3);
        x.growAll();
        x.keep();
        x.list(0, 5);
        for (int n : new int[] {0, -1, 10, LEAST, GREATEST}) {
            due("begin of no such n", x.begin(n), false);
        }
        due("lines are there still", x.count(1), 2);
        due("kept still", x.count(6), 1);
        due("grown still", x.grown(0), 1);
        due("begin(9)", x.begin(9), true);
        due("posts", x.count(0), 9);
        due("lines", x.count(1), 0);
        due("degree", x.count(2), 0);
        due("kept no more", x.count(6), 0);
        due("grown no more", x.grown(0), NONE);
        x.line(0, 1);
        due("list anew", x.list(0, 1), 511);
        due("colour anew", x.of(0, 2), -2);
        due("begin(1)", x.begin(1), true);
        promise = 3;
        x = new LineColours();
        x.begin(7);
        due("line(1, 0)", x.line(1, 0), 0);
        due("there is one", x.line(0, 1), NONE);
        due("the same post", x.line(2, 2), NONE);
        for (int post : new int[] {-1, 7, LEAST, GREATEST}) {
            due("no such post", x.line(0, post), NONE);
            due("no such post", x.line(post, 0), NONE);
        }
        due("line(6, 5)", x.line(6, 5), 1);
        due("colour as it comes", x.of(1, 2), -2);
        int laid = 2;
        for (int a = 0; a < 7; a++) {
            for (int b = a + 1; b < 7 && laid < 20; b++) {
                if (a + b != 1 && a + b != 11) {
                    due("line", x.line(a, b), laid);
                    laid++;
                }
            }
        }
        due("there are 20", x.count(1), 20);
        due("one more", x.line(4, 6), NONE);
        due("still 20", x.count(1), 20);
    }

    private void painting() {
        promise = 4;
        LineColours x = path(4);
        due("paint(0, 2)", x.paint(0, 2), true);
        due("it has it", x.paint(0, 2), false);
        due("not free at one post", x.paint(1, 2), false);
        due("free at both posts", x.paint(2, 2), true);
        due("in place of its own", x.paint(0, 1), true);
        dueColours("painting", x, "1.2");
        due("free again", x.paint(1, 0), true);
        for (int wrong : new int[] {-1, 3, LEAST, GREATEST}) {
            due("no such line", x.paint(wrong, 0), false);
            due("no such colour", x.paint(0, wrong), false);
        }
        dueColours("refusals", x, "102");
        promise = 5;
        due("bare(0)", x.bare(0), 1);
        due("it has none", x.bare(0), NONE);
        due("no such", x.bare(3), NONE);
        due("no such", x.bare(-1), NONE);
        due("no such", x.bare(GREATEST), NONE);
        dueColours("baring", x, ".02");
        due("bare of colour 0", x.bare(1), 0);
    }

    private void turningByHand() {
        promise = 6;
        LineColours x = path(6);
        paintAll(x, "01021");
        due("turn(0, 0, 1)", x.turn(0, 0, 1), 3);
        dueColours("turn(0, 0, 1)", x, "10121");
        due("turn(5, 0, 1)", x.turn(5, 1, 0), 1);
        dueColours("turn(5, 1, 0)", x, "10120");
        due("no lines", x.turn(0, 0, 2), 0);
        due("alike", x.turn(0, 1, 1), NONE);
        for (int wrong : new int[] {-1, 6, LEAST, GREATEST}) {
            due("no such post", x.turn(wrong, 0, 1), NONE);
            due("no such colour", x.turn(0, wrong, 1), NONE);
            due("no such colour", x.turn(0, 1, wrong), NONE);
        }
        due("above the degree", x.turn(0, 0, 3), NONE);
        dueColours("refusals", x, "10120");
        promise = 7;
        due("swap(0, 1)", x.swap(0, 1), 4);
        dueColours("swap(0, 1)", x, "01021");
        due("swap(2, 0)", x.swap(2, 0), 3);
        dueColours("swap(2, 0)", x, "21201");
        due("alike", x.swap(1, 1), NONE);
        due("no such", x.swap(3, 0), NONE);
        due("no such", x.swap(0, -1), NONE);
        x.begin(2);
        x.line(0, 1);
        due("none has one of both", x.swap(0, 1), 0);
    }

    private void growing() {
        promise = 8;
        LineColours x = path(3);
        due("grow(1)", x.grow(1), 0);
        due("grow(0)", x.grow(0), 1);
        due("it has one", x.grow(0), -2);
        due("no such", x.grow(2), NONE);
        due("no such", x.grow(-1), NONE);
        due("no such", x.grow(LEAST), NONE);
        promise = 9;
        for (int posts = 2; posts <= 9; posts++) {
            x = full(posts);
            int lines = x.count(1);
            x.paint(0, x.count(2));
            due("growAll()", x.growAll(), lines - 1);
            due("none is left", x.count(3), 0);
            due("nothing to do", x.growAll(), 0);
            dueProper(x);
        }
        due("no lines", new LineColours().growAll(), 0);
    }

    private void dueProper(LineColours x) {
        for (int line = 0; line < x.count(1); line++) {
            for (int post = 0; post < 2; post++) {
                int at = x.of(line, post);
                due("colours at a post", Integer.bitCount(x.post(at, 1)) == x.post(at, 0), true);
            }
        }
    }

    private void growingByFanAndChain() {
        promise = 8;
        LineColours x = net(4, 0, 1, 0, 2, 0, 3);
        paintAll(x, ".01");
        due("grow(0) by a chain", x.grow(0), 0);
        dueGrown(x, 2, 0, 3, 0, 1);
        dueColours("grow(0)", x, "021");
        promise = 8;
        x = net(4, 0, 1, 0, 2, 0, 3, 1, 2);
        paintAll(x, ".012");
        due("grow(0) by a chain to the fan and the whole fan", x.grow(0), 2);
        dueGrown(x, 2, 0, 3, 2, 2);
        dueColours("grow(0)", x, "2100");
        due("others", x.grown(5), NONE);
        due("others", x.grown(-1), NONE);
        due("others", x.grown(GREATEST), NONE);
        promise = 8;
        x = net(4, 0, 1, 0, 2, 1, 3);
        paintAll(x, ".01");
        due("grow(0) by the fan alone", x.grow(0), 0);
        dueGrown(x, 1, 1, 2, 1, 0);
        dueColours("grow(0)", x, "011");
        x.paint(2, 2);
        due("growAll() grows none", x.growAll(), 0);
        due("the last one still", x.grown(3), 1);
        x.begin(4);
        due("since begin()", x.grown(3), NONE);
    }

    private void dueGrown(LineColours x, int... want) {
        promise = 15;
        for (int what = 0; what < want.length; what++) {
            due("grown(" + what + ")", x.grown(what), want[what]);
        }
    }

    private void pairing() {
        promise = 10;
        LineColours x = net(4, 0, 1, 2, 3, 1, 2);
        paintAll(x, "201");
        due("pair()", x.pair(), 3);
        dueColours("pair()", x, "001");
        x = net(5, 0, 1, 1, 2, 3, 4, 2, 3);
        due("pair()", x.pair(), 4);
        dueColours("pair() by a chain", x, "0110");
        due("sides have as few as the degree", x.count(4), 2);
        x = round(5);
        x.paint(0, 2);
        due("no sides", x.pair(), -2);
        dueColours("no sides", x, "2....");
        due("no lines", new LineColours().pair(), 0);
        x = net(9, 0, 5, 0, 6, 0, 7, 0, 8, 1, 5, 1, 6, 1, 7, 1, 8, 2, 5, 2, 6, 2, 7, 2, 8, 3, 5, 3, 6, 3, 7, 3, 8);
        due("pair()", x.pair(), 16);
        due("colours", x.count(4), 4);
        due("all even", x.count(5), 0);
        dueProper(x);
    }

    private void evening() {
        promise = 11;
        LineColours x = net(8, 0, 1, 2, 3, 4, 5, 6, 7, 5, 6);
        paintAll(x, "0000.");
        due("among colours to the greatest", x.even(), 0);
        paintAll(x, "00002");
        due("even()", x.even(), 2);
        dueColours("even()", x, "11002");
        due("even already", x.even(), 0);
        paintAll(x, "22222");
        paintAll(x, "2222.");
        due("colours that none has count", x.even(), 2);
        dueColours("even()", x, "0122.");
        due("no lines", new LineColours().even(), 0);
    }

    private void takingAndKeeping() {
        promise = 12;
        LineColours x = full(4);
        due("none by 2", x.take(2), false);
        due("take(3)", x.take(3), true);
        dueColours("take(3)", x, "012210");
        due("take(4)", x.take(4), true);
        due("above the number of colours", x.take(5), false);
        due("below", x.take(-1), false);
        due("above", x.take(GREATEST), false);
        due("below", x.take(LEAST), false);
        dueColours("refusals", x, "012210");
        promise = 13;
        x = path(4);
        paintAll(x, "0.1");
        due("keep()", x.keep(), true);
        due("kept", x.count(6), 1);
        paintAll(x, "12.");
        promise = 14;
        due("back()", x.back(), 3);
        dueColours("back()", x, "0.1");
        due("back() again", x.back(), 0);
        x.line(0, 3);
        x.paint(3, 2);
        due("a line that came since", x.back(), 1);
        dueColours("back()", x, "0.1.");
        x.paint(1, 2);
        promise = 13;
        due("keep() in place", x.keep(), true);
        x.bare(1);
        due("back()", x.back(), 1);
        dueColours("back()", x, "021.");
        promise = 14;
        due("nothing is kept", new LineColours().back(), NONE);
    }

    private void looking() {
        promise = 16;
        LineColours x = net(5, 3, 1, 1, 0, 2, 4, 3, 2);
        paintAll(x, "02.1");
        due("lesser", x.of(0, 0), 1);
        due("greater", x.of(0, 1), 3);
        due("colour", x.of(1, 2), 2);
        due("no colour", x.of(2, 2), -2);
        due("sharing", x.of(0, 3), 10);
        due("others", x.of(0, 4), NONE);
        due("others", x.of(0, -1), NONE);
        due("no such", x.of(4, 0), NONE);
        due("no such", x.of(-1, 2), NONE);
        due("no such", x.of(GREATEST, 3), NONE);
        promise = 17;
        due("at the greater", x.clash(0, 1), 3);
        due("at the lesser", x.clash(0, 2), 1);
        due("itself", x.clash(0, 0), 0);
        due("none", x.clash(2, 2), -2);
        x.bare(0);
        x.paint(3, 2);
        due("lesser ahead of greater", x.clash(0, 2), 1);
        due("no such line", x.clash(4, 0), NONE);
        due("no such colour", x.clash(0, 3), NONE);
        due("no such colour", x.clash(0, -1), NONE);
        promise = 18;
        x = net(5, 0, 1, 0, 2, 0, 3);
        paintAll(x, "31.");
        due("lines", x.post(0, 0), 3);
        due("colours", x.post(0, 1), 10);
        due("least free", x.post(0, 2), 0);
        due("least free", x.post(1, 2), 0);
        due("greatest", x.post(0, 3), 0);
        due("none has one", x.post(3, 3), NONE);
        due("no line", x.post(4, 0), 0);
        due("others", x.post(0, 4), NONE);
        due("others", x.post(0, -1), NONE);
        due("no such", x.post(5, 0), NONE);
        due("no such", x.post(-1, 0), NONE);
        promise = 19;
        due("how many", x.colour(3, 0), 1);
        due("these", x.colour(1, 1), 2);
        due("lacking", x.colour(3, 2), 28);
        due("lacking", x.colour(0, 2), 31);
        due("others", x.colour(0, 3), NONE);
        due("others", x.colour(0, -1), NONE);
        due("no such", x.colour(4, 0), NONE);
        due("no such", x.colour(-1, 0), NONE);
    }

    private void lookingAtChains() {
        promise = 20;
        LineColours x = round(6);
        paintAll(x, "010102");
        due("lines", x.chain(3, 0, 1, 0), 31);
        due("posts", x.chain(3, 0, 1, 1), 63);
        due("no round", x.chain(3, 0, 1, 2), 0);
        due("more of the first", x.chain(3, 0, 1, 3), 1);
        due("more of the other", x.chain(3, 1, 0, 3), -1);
        due("the post alone", x.chain(2, 2, 1, 0), 2);
        due("no line", net(3, 0, 1).chain(2, 0, 1, 0), 0);
        due("the first one, too", net(3, 0, 1).chain(2, 0, 1, 1), 4);
        due("no round", net(3, 0, 1).chain(2, 0, 1, 2), 0);
        x.bare(4);
        x.bare(5);
        x.paint(4, 0);
        x.paint(5, 1);
        due("a round", x.chain(3, 0, 1, 2), 1);
        due("as many", x.chain(3, 0, 1, 3), 0);
        due("others", x.chain(3, 0, 1, 4), -2);
        due("others", x.chain(3, 0, 1, -1), -2);
        due("alike", x.chain(3, 1, 1, 0), NONE);
        due("NONE ahead of -2", x.chain(6, 0, 1, 4), NONE);
        due("NONE ahead of -2", x.chain(0, 0, 3, 9), NONE);
        due("no such", x.chain(-1, 0, 1, 0), NONE);
        due("no such", x.chain(0, -1, 1, 0), NONE);
    }

    private void idling() {
        promise = 21;
        LineColours x = star(5);
        due("none has one", x.idle(0), 0);
        paintAll(x, "05.3.");
        due("idle(0)", x.idle(0), 3);
        due("idle(1)", x.idle(1), 0);
        due("all together", x.idle(NONE), 3);
        due("no such", x.idle(6), -2);
        due("no such", x.idle(-2), -2);
        due("no such", x.idle(GREATEST), -2);
        promise = 22;
        due("by how much", x.calmer(0), 3);
        due("the less", x.calmer(1), 0);
        due("the other", x.calmer(2), 4);
        paintAll(x, "123..");
        due("by none", x.calmer(0), -2);
        due("by none", x.calmer(2), -2);
        due("others", x.calmer(3), NONE);
        due("others", x.calmer(-1), NONE);
        dueColours("calmer()", x, "123..");
    }

    private void fanning() {
        promise = 23;
        LineColours x = net(5, 0, 1, 0, 2, 0, 3, 0, 4, 1, 2);
        paintAll(x, ".2013");
        due("how many", x.fan(0, 0, NONE), 4);
        due("first", x.fan(0, 0, 0), 1);
        due("by the least colour", x.fan(0, 0, 1), 3);
        due("then", x.fan(0, 0, 2), 4);
        due("last", x.fan(0, 0, 3), 2);
        due("no more", x.fan(0, 0, 4), NONE);
        due("at the other post", x.fan(0, 1, NONE), 2);
        due("at the other post", x.fan(0, 1, 1), 2);
        due("it has a colour", x.fan(1, 0, 0), -2);
        due("it has a colour", x.fan(1, 2, NONE), -2);
        due("no post of it", x.fan(0, 2, 0), NONE);
        due("NONE ahead of -2", x.fan(1, 1, 0), NONE);
        due("no such i", x.fan(0, 0, -2), NONE);
        due("no such line", x.fan(5, 0, 0), NONE);
        due("no such post", x.fan(0, -1, 0), NONE);
    }

    private void fewest() {
        promise = 24;
        due("no lines", new LineColours().index(), 0);
        due("a line", path(2).index(), 1);
        due("a path", path(5).index(), 2);
        due("odd round", round(7).index(), 3);
        due("even round", round(8).index(), 2);
        due("star", star(8).index(), 8);
        due("full 5", full(5).index(), 5);
        due("full 6", full(6).index(), 5);
        due("Petersen less one", net(9, PETERSEN_LESS_ONE).index(), 4);
        LineColours grows = path(3);
        due("before", grows.index(), 2);
        grows.line(0, 2);
        due("after", grows.index(), 3);
        promise = 25;
        LineColours x = round(5);
        int[] by3 = {0, 1, 0, 1, 2};
        for (int line = 0; line < 5; line++) {
            due("first(3, line)", x.first(3, line), by3[line]);
            due("first(9, line)", x.first(9, line), by3[line]);
            due("first(2, line)", x.first(2, line), -2);
        }
        due("none by 0", x.first(0, 0), -2);
        due("no such k", x.first(10, 0), NONE);
        due("no such k", x.first(-1, 0), NONE);
        due("NONE ahead of -2", x.first(0, 5), NONE);
        due("no such line", x.first(3, -1), NONE);
        x = net(4, 0, 1, 2, 3, 1, 2);
        due("the least for line 1", x.first(2, 1), 0);
        x = net(6, 0, 1, 2, 3, 0, 4, 4, 5, 5, 2);
        due("line 1 gives way", x.first(2, 1), 0);
        x = net(5, 0, 1, 2, 3, 0, 4, 4, 2);
        due("line 1 gives way", x.first(2, 1), 1);
        due("but not by 3", x.first(3, 1), 0);
        promise = 33;
        due("no lines", new LineColours().critical(), 0);
        due("a line", path(2).critical(), 1);
        due("two lines", path(3).critical(), 3);
        due("three lines", path(4).critical(), 2);
        due("odd round", round(5).critical(), 31);
        due("even round", round(6).critical(), 0);
        due("star", star(8).critical(), 255);
        due("Petersen less one", net(9, PETERSEN_LESS_ONE).critical(), 4095);
        due("triangle and tail", net(4, 0, 1, 1, 2, 0, 2, 2, 3).critical(), 6);
    }

    private void refusing() {
        promise = 26;
        LineColours x = net(6, 1, 3, 3, 5, 1, 5, 0, 2);
        due("the set", x.overfull(0), 42);
        due("within", x.overfull(1), 3);
        due("at most", x.overfull(2), 2);
        x = net(7, 6, 5, 5, 4, 4, 6, 3, 2, 2, 1, 1, 3);
        due("the least set", x.overfull(0), 14);
        due("none", full(4).overfull(0), -2);
        due("none", net(9, PETERSEN_LESS_ONE).overfull(1), -2);
        due("others", full(4).overfull(3), NONE);
        due("others", full(4).overfull(-1), NONE);
        due("full 5", full(5).overfull(0), 31);
        due("full 5 at most", full(5).overfull(2), 8);
        promise = 27;
        x = net(9, PETERSEN_LESS_ONE);
        due("a post", x.refused(2, 0), 1);
        due("the post", x.refused(2, 1), 1);
        due("no first", x.refused(3, 0), 3);
        due("no first", x.refused(3, 1), 0);
        due("not refused", x.refused(4, 0), 0);
        due("not refused", x.refused(9, 1), 0);
        due("a set", full(5).refused(4, 0), 2);
        due("the set", full(5).refused(4, 1), 31);
        due("by 0 without lines", new LineColours().refused(0, 0), 0);
        due("by 0", path(2).refused(0, 0), 1);
        due("no such k", x.refused(-1, 0), NONE);
        due("no such k", x.refused(10, 0), NONE);
        due("no such what", x.refused(3, 2), NONE);
        due("no such what", x.refused(3, -1), NONE);
    }

    private void listing() {
        promise = 28;
        LineColours x = path(4);
        due("as it comes", x.list(0, 6), 511);
        due("what it was", x.list(0, 0), 6);
        due("what it was", x.list(0, 511), 0);
        due("no such set", x.list(0, 512), NONE);
        due("no such set", x.list(0, -1), NONE);
        due("no such line", x.list(3, 1), NONE);
        due("no such line", x.list(-1, 1), NONE);
        due("nothing happened", x.list(0, 511), 511);
        promise = 29;
        due("listed(0)", x.listed(0), 0);
        due("listed(1)", x.listed(1), 1);
        x.list(1, 1);
        due("line 0 gives way", x.listed(0), 1);
        due("listed(1)", x.listed(1), 0);
        due("listed(2)", x.listed(2), 1);
        x.list(2, 1 << 8);
        due("a colour above the degree", x.listed(2), 8);
        x.list(0, 1);
        due("there is none", x.listed(2), -2);
        due("no such line", x.listed(3), NONE);
        due("no such line", x.listed(-1), NONE);
        x = path(9);
        due("8 lines", x.listed(7), 1);
        x.line(8, 0);
        due("9 lines", x.listed(8), 2);
        x.line(0, 2);
        due("10 lines", x.listed(0), -3);
        due("NONE ahead", x.listed(10), NONE);
        x = star(8);
        for (int line = 0; line < 8; line++) {
            x.list(line, 127);
        }
        due("eight lines, seven colours", x.listed(0), -2);
        x.list(7, 255);
        due("seven and one more", x.listed(7), 7);
        promise = 30;
        x = star(3);
        paintAll(x, "02.");
        due("free", x.free(2), 10);
        due("free of one that has a colour", x.free(0), 10);
        due("no such", x.free(3), NONE);
        due("no such", x.free(-1), NONE);
    }

    private void chainsOfAll() {
        promise = 31;
        LineColours x = path(7);
        due("there is none", x.longest(0), -2);
        paintAll(x, "....2.");
        due("one line", x.longest(0), 1);
        due("less colour", x.longest(1), 0);
        due("other colour", x.longest(2), 2);
        due("least line", x.longest(3), 4);
        paintAll(x, "120212");
        due("how many", x.longest(0), 3);
        due("less colour", x.longest(1), 0);
        due("other colour", x.longest(2), 2);
        due("least line", x.longest(3), 1);
        due("others", x.longest(4), NONE);
        due("others", x.longest(-1), NONE);
        promise = 36;
        due("chains(1, 2)", x.chains(1, 2), 2);
        due("chains(0, 2)", x.chains(2, 0), 2);
        due("chains(0, 1)", x.chains(0, 1), 3);
        due("alike", x.chains(1, 1), NONE);
        due("no such", x.chains(3, 0), NONE);
        due("no such", x.chains(0, -1), NONE);
        due("without a line", path(7).chains(0, 1), 0);
    }

    private void counting() {
        promise = 32;
        LineColours x = full(6);
        int[] full6 = {1, 15, 45, 15, 0};
        for (int m = 0; m < 5; m++) {
            due("sets(m)", x.sets(m), full6[m]);
        }
        due("four apart", net(9, 0, 1, 2, 3, 4, 5, 6, 7, 7, 8).sets(4), 2);
        due("no such", x.sets(5), NONE);
        due("no such", x.sets(-1), NONE);
        promise = 38;
        due("most", x.apart(0), 3);
        due("least set", x.apart(1), 1 << 4 | 1 << 7 | 1 << 9);
        due("four", net(9, 0, 1, 2, 3, 4, 5, 6, 7, 7, 8).apart(1), 15);
        due("not the first lines", net(4, 1, 2, 0, 1, 2, 3).apart(1), 6);
        due("others", x.apart(2), NONE);
        due("others", x.apart(-1), NONE);
        promise = 39;
        due("path of 8", path(9).ways(9), 9L * 8 * 8 * 8 * 8 * 8 * 8 * 8);
        due("round of 9", round(9).ways(9), 134217720L);
        due("star", star(8).ways(8), 40320);
        due("star", star(8).ways(7), 0);
        due("by 0", path(2).ways(0), 0);
        due("by 0 without lines", new LineColours().ways(0), 1);
        x = round(9);
        x.line(0, 2);
        due("10 lines", x.ways(3), -2);
        due("NONE ahead", x.ways(10), NONE);
        due("NONE ahead", x.ways(-1), NONE);
    }

    private void kindsAndTurns() {
        promise = 34;
        due("no lines", new LineColours().kinds(4), 1);
        due("round of 5", round(5).kinds(3), 1);
        due("path of 6 by 2", path(7).kinds(2), 1);
        due("by 1", path(3).kinds(1), 0);
        due("by 1", net(4, 0, 1, 2, 3).kinds(1), 1);
        due("two kinds", net(5, 0, 2, 0, 3, 0, 4, 1, 2, 1, 3, 1, 4).kinds(3), 2);
        due("by one colour more, one", net(5, 0, 2, 0, 3, 0, 4, 1, 2, 1, 3, 1, 4).kinds(4), 1);
        due("7 lines", path(8).kinds(2), -2);
        due("NONE ahead", path(8).kinds(5), NONE);
        due("NONE ahead", path(8).kinds(0), NONE);
        promise = 35;
        LineColours x = net(5, 0, 2, 0, 3, 0, 4, 1, 2, 1, 3, 1, 4);
        due("nothing is kept", x.turns(3), NONE);
        paintAll(x, "012120");
        x.keep();
        due("as it is", x.turns(3), 0);
        due("as it is", x.turns(2), NONE);
        x.turn(0, 0, 1);
        due("one", x.turns(3), 1);
        x.turn(0, 1, 2);
        due("two", x.turns(3), 2);
        paintAll(x, "012201");
        due("another kind", x.turns(3), -2);
        due("by one colour more", x.turns(4) > 0, true);
        due("no such k", x.turns(5), NONE);
        due("no such k", x.turns(0), NONE);
        x.bare(0);
        due("one has none", x.turns(3), NONE);
        x.paint(0, 3);
        due("a colour above", x.turns(3), NONE);
        x.line(0, 1);
        due("7 lines", x.turns(4), NONE);
        x = path(3);
        paintAll(x, "01");
        x.keep();
        x.begin(3);
        due("kept no more", x.turns(2), NONE);
    }

    private void shape() {
        promise = 37;
        LineColours x = net(7, 6, 5, 4, 3, 3, 2);
        due("there are", x.sides(0), 1);
        due("the one part", x.sides(1), 1 | 2 | 4 | 16 | 32);
        due("no round", x.sides(2), 0);
        x = round(7);
        due("there are none", x.sides(0), 0);
        due("there are none", x.sides(1), -2);
        due("round of 7", x.sides(2), 7);
        x.line(0, 4);
        due("round of 5", x.sides(2), 5);
        x.line(0, 2);
        due("round of 3", x.sides(2), 3);
        due("round of 9", round(9).sides(2), 9);
        due("others", x.sides(3), NONE);
        due("others", x.sides(-1), NONE);
        due("Petersen less one", net(9, PETERSEN_LESS_ONE).sides(2), 5);
    }

    private void comparing() {
        promise = 40;
        LineColours x = path(5);
        due("nothing is kept", x.unlike(0), -2);
        due("nothing is kept", x.unlike(1), -2);
        due("NONE ahead", x.unlike(2), NONE);
        paintAll(x, "01.2");
        x.keep();
        due("unlike", x.unlike(0), 0);
        due("like", x.unlike(1), 1);
        paintAll(x, "12.0");
        due("unlike", x.unlike(0), 3);
        due("like", x.unlike(1), 1);
        paintAll(x, "12.1");
        due("two made one", x.unlike(1), 0);
        paintAll(x, "0.12");
        due("another has none", x.unlike(1), 0);
        due("unlike", x.unlike(0), 2);
        paintAll(x, "01.2");
        x.line(0, 3);
        due("a line since", x.unlike(1), 1);
        x.paint(4, 3);
        due("a line since", x.unlike(0), 1);
        due("a line since", x.unlike(1), 0);
        x = net(6, 0, 1, 2, 3, 4, 5);
        paintAll(x, "001");
        x.keep();
        paintAll(x, "010");
        due("one made two", x.unlike(1), 0);
        due("others", x.unlike(-1), NONE);
        promise = 41;
        x = star(4);
        x.begin(6);
        x.line(0, 1);
        x.line(0, 2);
        x.line(0, 3);
        x.line(4, 5);
        x.line(1, 2);
        due("posts", x.count(0), 6);
        due("lines", x.count(1), 5);
        due("degree", x.count(2), 3);
        due("bare", x.count(3), 5);
        due("used", x.count(4), 0);
        due("uneven", x.count(5), 0);
        due("easy", x.count(7), 5);
        paintAll(x, "01.02");
        due("bare", x.count(3), 1);
        due("used", x.count(4), 3);
        due("uneven", x.count(5), 1);
        due("easy", x.count(7), 1);
        x.paint(0, 3);
        due("easy", x.count(7), 1);
        paintAll(x, "1.002");
        due("not easy", x.count(7), 0);
        due("kept", x.count(6), 0);
        due("others", x.count(8), NONE);
        due("others", x.count(-1), NONE);
        due("others", x.count(LEAST), NONE);
    }
}
