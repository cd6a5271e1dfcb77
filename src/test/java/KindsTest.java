import java.util.ArrayList;
import java.util.List;
import java.util.Map;
import java.util.Random;

/** Few lines: kinds() and turns() from one colouring to many others, against the plain model. */
public final class KindsTest {
    private static final int NETWORKS = 1500;
    private static final int MOST_GOALS = 120;

    private final Check check = new Check();
    private final Random chance = new Random(20261118L);

    public static void main(String[] args) {
        KindsTest test = new KindsTest();
        test.linesApart();
        for (int network = 0; network < NETWORKS; network++) {
            test.networkByChance();
        }
        test.check.end();
    }

    /** Each chain is one line there: as many are turned as are unlike. */
    private void linesApart() {
        for (int was = 0; was < 16; was++) {
            for (int is = 0; is < 16; is++) {
                LineColours x = new LineColours();
                x.begin(8);
                for (int line = 0; line < 4; line++) {
                    x.line(2 * line, 2 * line + 1);
                    x.paint(line, was >> line & 1);
                }
                x.keep();
                for (int line = 0; line < 4; line++) {
                    x.paint(line, is >> line & 1);
                }
                for (int k = 2; k <= 4; k++) {
                    check.due("turns(" + k + ") of lines apart, " + was + " to " + is, x.turns(k), Integer.bitCount(was ^ is));
                }
            }
        }
    }

    private void networkByChance() {
        int posts = 4 + chance.nextInt(6);
        int lines = 3 + chance.nextInt(posts == 4 ? 3 : 4);
        List<int[]> ends = new ArrayList<>();
        Plain plain = new Plain();
        plain.begin(posts);
        while (plain.lines() < lines) {
            int[] end = {chance.nextInt(posts), chance.nextInt(posts)};
            if (plain.line(end[0], end[1]) >= 0) {
                ends.add(end);
            }
        }
        int k = 2 + chance.nextInt(3);
        check.due("kinds(" + k + ") of " + told(ends), laid(posts, ends).kinds(k), plain.kinds(k));
        List<List<Integer>> all = plain.colouringsBy(k);
        all.removeIf(colouring -> colouring.stream().anyMatch(colour -> colour > plain.degree()));
        if (!all.isEmpty()) {
            turns(plain, posts, ends, k, all);
        }
    }

    private void turns(Plain plain, int posts, List<int[]> ends, int k, List<List<Integer>> all) {
        List<Integer> was = all.get(chance.nextInt(all.size()));
        Map<List<Integer>, Integer> far = plain.distances(was, k);
        for (int goal = 0; goal < MOST_GOALS; goal++) {
            List<Integer> is = all.get(chance.nextInt(all.size()));
            LineColours x = laid(posts, ends);
            paintAll(x, was);
            x.keep();
            paintAll(x, is);
            check.due("turns(" + k + ") of " + told(ends) + ", " + was + " to " + is, x.turns(k), far.getOrDefault(is, -2));
        }
    }

    /** The object has known another network, all lines of which meet: of that nothing must be left. */
    private static LineColours laid(int posts, List<int[]> ends) {
        LineColours x = new LineColours();
        x.begin(7);
        for (int post = 1; post < 7; post++) {
            x.line(0, post);
        }
        x.kinds(2);
        x.begin(posts);
        for (int[] end : ends) {
            x.line(end[0], end[1]);
        }
        return x;
    }

    private static void paintAll(LineColours x, List<Integer> colours) {
        for (int line = 0; line < colours.size(); line++) {
            x.bare(line);
        }
        for (int line = 0; line < colours.size(); line++) {
            x.paint(line, colours.get(line));
        }
    }

    private static String told(List<int[]> ends) {
        StringBuilder told = new StringBuilder();
        for (int[] end : ends) {
            told.append(' ').append(end[0]).append('-').append(end[1]);
        }
        return told.toString();
    }
}
