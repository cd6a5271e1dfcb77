import java.util.Arrays;

/** Lines of a network, coloured so that lines that meet at a post differ. */
public final class LineColours {
    public static final int NONE = -1;

    private static final int NOT_SO = -2;
    private static final int TOO_MANY = -3;
    private static final int BARE = -1;
    private static final int MOST_POSTS = 9;
    private static final int MOST_LINES = 20;
    private static final int MOST_COLOURS = 9;
    private static final int ALL_COLOURS = 511;
    private static final int COUNTED_LINES = 9;
    private static final int TURNED_LINES = 6;
    private static final int TURNED_COLOURS = 4;
    private static final int MOST_APART = 4;
    private static final int MOST_TURNS = 1000;

    private final Network net;
    private final Colouring now;
    private final Fan fan;
    private final Grower grower;
    private final ChainWalk walk;
    private final Calmer calmer;
    private final Search search;
    private final Apart apart;
    private final Sharing sharing;
    private final Turning turning;
    private final int[] kept;
    private final int[] lists;
    private boolean anyKept;

    public LineColours() {
        net = new Network();
        now = new Colouring(net);
        fan = new Fan(net, now);
        grower = new Grower(net, now, fan);
        walk = new ChainWalk(net, now);
        calmer = new Calmer(net, now);
        search = new Search(net);
        apart = new Apart(net);
        sharing = new Sharing(net);
        turning = new Turning(net);
        kept = new int[MOST_LINES];
        lists = new int[MOST_LINES];
        anyKept = false;
    }

    // ---- what is laid and painted

    public boolean begin(int n) {
        if (n < 1 || n > MOST_POSTS) {
            return false;
        }
        net.clear(n);
        now.clear();
        grower.any = false;
        search.forget();
        anyKept = false;
        return true;
    }

    public int line(int a, int b) {
        if (!net.isPost(a) || !net.isPost(b) || a == b) {
            return NONE;
        }
        if (net.lines >= MOST_LINES || net.lineBetween(a, b) != NONE) {
            return NONE;
        }
        int line = net.lines;
        net.add(a, b);
        lists[line] = ALL_COLOURS;
        search.forget();
        return line;
    }

    public boolean paint(int line, int colour) {
        if (!net.isLine(line) || !now.isColour(colour) || (now.freeAtBoth(line) >> colour & 1) == 0) {
            return false;
        }
        now.give(line, colour);
        return true;
    }

    public int bare(int line) {
        if (!net.isLine(line) || now.colourOf[line] == BARE) {
            return NONE;
        }
        int had = now.colourOf[line];
        now.strip(line);
        return had;
    }

    public int turn(int post, int one, int other) {
        if (!net.isPost(post) || !now.areUnlike(one, other)) {
            return NONE;
        }
        int chain = now.chainOf(post, one, other);
        now.flip(chain, one, other);
        return Integer.bitCount(chain);
    }

    public int swap(int one, int other) {
        if (!now.areUnlike(one, other)) {
            return NONE;
        }
        int both = now.linesOf[one] | now.linesOf[other];
        now.flip(both, one, other);
        return Integer.bitCount(both);
    }

    public int grow(int line) {
        if (!net.isLine(line)) {
            return NONE;
        }
        if (now.colourOf[line] != BARE) {
            return NOT_SO;
        }
        grower.raise(line);
        return now.colourOf[line];
    }

    public int growAll() {
        int had = 0;
        for (int line = 0; line < net.lines; line++) {
            if (now.colourOf[line] == BARE) {
                grower.raise(line);
                had++;
            }
        }
        return had;
    }

    public int pair() {
        if (net.onePart() == 0) {
            return NOT_SO;
        }
        now.clear();
        for (int line = 0; line < net.lines; line++) {
            now.giveBelowDegree(line);
        }
        return net.lines;
    }

    public int even() {
        return walk.makeEven();
    }

    public boolean take(int k) {
        if (k < 0 || k > now.colours() || !search.findFirst(k)) {
            return false;
        }
        now.clear();
        for (int line = 0; line < net.lines; line++) {
            now.give(line, search.answer[line]);
        }
        return true;
    }

    public boolean keep() {
        System.arraycopy(now.colourOf, 0, kept, 0, MOST_LINES);
        anyKept = true;
        return true;
    }

    public int back() {
        if (!anyKept) {
            return NONE;
        }
        int unlike = countUnlike();
        now.clear();
        for (int line = 0; line < net.lines; line++) {
            if (kept[line] != BARE) {
                now.give(line, kept[line]);
            }
        }
        return unlike;
    }

    public int grown(int what) {
        if (!grower.any || what < 0 || what >= grower.last.length) {
            return NONE;
        }
        return grower.last[what];
    }

    // ---- what there is

    public int of(int line, int what) {
        if (!net.isLine(line)) {
            return NONE;
        }
        switch (what) {
            case 0:
                return net.low[line];
            case 1:
                return net.high[line];
            case 2:
                return now.colourOf[line] == BARE ? NOT_SO : now.colourOf[line];
            case 3:
                return net.meeting[line];
            default:
                return NONE;
        }
    }

    public int clash(int line, int colour) {
        if (!net.isLine(line) || !now.isColour(colour)) {
            return NONE;
        }
        if (now.colourOf[line] == colour) {
            return line;
        }
        int atLow = now.lineWith(net.low[line], colour);
        if (atLow != NONE) {
            return atLow;
        }
        int atHigh = now.lineWith(net.high[line], colour);
        return atHigh != NONE ? atHigh : NOT_SO;
    }

    public int post(int post, int what) {
        if (!net.isPost(post)) {
            return NONE;
        }
        int colours = now.coloursAt(post);
        switch (what) {
            case 0:
                return Integer.bitCount(net.linesAt[post]);
            case 1:
                return colours;
            case 2:
                return now.leastFreeAt(post);
            case 3:
                return colours == 0 ? NONE : now.lineWith(post, greatestBit(colours));
            default:
                return NONE;
        }
    }

    public int colour(int colour, int what) {
        if (!now.isColour(colour)) {
            return NONE;
        }
        int lines = now.linesOf[colour];
        switch (what) {
            case 0:
                return Integer.bitCount(lines);
            case 1:
                return lines;
            case 2:
                return net.allPosts() & ~net.postsOf(lines);
            default:
                return NONE;
        }
    }

    public int chain(int post, int one, int other, int what) {
        if (!net.isPost(post) || !now.areUnlike(one, other)) {
            return NONE;
        }
        int lines = now.chainOf(post, one, other);
        int posts = net.postsOf(lines) | 1 << post;
        switch (what) {
            case 0:
                return lines;
            case 1:
                return posts;
            case 2:
                return Integer.bitCount(lines) == Integer.bitCount(posts) ? 1 : 0;
            case 3:
                return Integer.compare(
                        Integer.bitCount(lines & now.linesOf[one]), Integer.bitCount(lines & now.linesOf[other]));
            default:
                return NOT_SO;
        }
    }

    public int idle(int post) {
        if (post == NONE) {
            return calmer.idleOfAll(0, 0);
        }
        return net.isPost(post) ? idleOf(now.coloursAt(post)) : NOT_SO;
    }

    public int calmer(int what) {
        if (what < 0 || what > 2) {
            return NONE;
        }
        calmer.look();
        if (calmer.less <= 0) {
            return NOT_SO;
        }
        if (what == 0) {
            return calmer.less;
        }
        return what == 1 ? calmer.one : calmer.other;
    }

    public int fan(int line, int post, int i) {
        if (!net.isLine(line) || i < NONE || (net.low[line] != post && net.high[line] != post)) {
            return NONE;
        }
        if (now.colourOf[line] != BARE) {
            return NOT_SO;
        }
        fan.lay(line, post);
        if (i == NONE) {
            return fan.size;
        }
        return i < fan.size ? fan.row[i] : NONE;
    }

    // ---- how few do

    public int index() {
        return search.fewest();
    }

    public int first(int k, int line) {
        if (!isFew(k) || !net.isLine(line)) {
            return NONE;
        }
        return search.findFirst(k) ? search.answer[line] : NOT_SO;
    }

    public int overfull(int what) {
        if (what < 0 || what > 2) {
            return NONE;
        }
        int set = net.crowdedSet(net.allLines(), net.degree);
        if (set == 0) {
            return NOT_SO;
        }
        if (what == 0) {
            return set;
        }
        return what == 1 ? net.linesWithin(set, net.allLines()) : net.degree * (Integer.bitCount(set) / 2);
    }

    public int refused(int k, int what) {
        if (!isFew(k) || what < 0 || what > 1) {
            return NONE;
        }
        if (net.degree > k) {
            return what == 0 ? 1 : net.leastPostAbove(k);
        }
        int set = net.crowdedSet(net.allLines(), k);
        if (set != 0) {
            return what == 0 ? 2 : set;
        }
        return what == 0 && k < search.fewest() ? 3 : 0;
    }

    public int list(int line, int set) {
        if (!net.isLine(line) || set < 0 || set > ALL_COLOURS) {
            return NONE;
        }
        int was = lists[line];
        lists[line] = set;
        search.forgetAnswer();
        return was;
    }

    public int listed(int line) {
        if (!net.isLine(line)) {
            return NONE;
        }
        if (net.lines > COUNTED_LINES) {
            return TOO_MANY;
        }
        return search.findListed(lists) ? search.answer[line] : NOT_SO;
    }

    public int free(int line) {
        return net.isLine(line) ? now.freeAtBoth(line) : NONE;
    }

    public int longest(int what) {
        if (what < 0 || what > 3) {
            return NONE;
        }
        int best = 0;
        int pair = 0;
        for (int one = 0; one < now.colours(); one++) {
            for (int other = one + 1; other < now.colours(); other++) {
                int chain = walk.longestChain(one, other);
                if (Integer.bitCount(chain) > Integer.bitCount(best)) {
                    best = chain;
                    pair = one * MOST_COLOURS + other;
                }
            }
        }
        if (best == 0) {
            return NOT_SO;
        }
        switch (what) {
            case 0:
                return Integer.bitCount(best);
            case 1:
                return pair / MOST_COLOURS;
            case 2:
                return pair % MOST_COLOURS;
            default:
                return Integer.numberOfTrailingZeros(best);
        }
    }

    public int sets(int m) {
        if (m < 0 || m > MOST_APART) {
            return NONE;
        }
        apart.gatherAll();
        return apart.howMany[m];
    }

    public int critical() {
        return search.dearLines();
    }

    public int kinds(int k) {
        if (k < 1 || k > TURNED_COLOURS) {
            return NONE;
        }
        return net.lines > TURNED_LINES ? NOT_SO : turning.countKinds(k);
    }

    public int turns(int k) {
        if (k < 1 || k > TURNED_COLOURS || !anyKept || net.lines > TURNED_LINES) {
            return NONE;
        }
        if (!areAllBelow(kept, k) || !areAllBelow(now.colourOf, k)) {
            return NONE;
        }
        return turning.fewestTurns(kept, now.colourOf, k);
    }

    public int chains(int one, int other) {
        return now.areUnlike(one, other) ? walk.countChains(one, other) : NONE;
    }

    public int sides(int what) {
        int part = net.onePart();
        switch (what) {
            case 0:
                return part != 0 ? 1 : 0;
            case 1:
                return part != 0 ? part : NOT_SO;
            case 2:
                return net.leastOddRound();
            default:
                return NONE;
        }
    }

    public int apart(int what) {
        if (what < 0 || what > 1) {
            return NONE;
        }
        apart.gatherAll();
        int most = apart.most();
        return what == 0 ? most : apart.least[most];
    }

    public long ways(int k) {
        if (!isFew(k)) {
            return NONE;
        }
        return net.lines > COUNTED_LINES ? NOT_SO : sharing.countColourings(k);
    }

    public int unlike(int what) {
        if (what < 0 || what > 1) {
            return NONE;
        }
        if (!anyKept) {
            return NOT_SO;
        }
        if (what == 0) {
            return countUnlike();
        }
        return isLikeKept() ? 1 : 0;
    }

    public int count(int what) {
        switch (what) {
            case 0:
                return net.posts;
            case 1:
                return net.lines;
            case 2:
                return net.degree;
            case 3:
                return Integer.bitCount(now.bareLines());
            case 4:
                return now.usedColours();
            case 5:
                return now.unevenness();
            case 6:
                return anyKept ? 1 : 0;
            case 7:
                return countEasy();
            default:
                return NONE;
        }
    }

    // ---- help for several calls

    private static boolean isFew(int k) {
        return k >= 0 && k <= MOST_COLOURS;
    }

    private static int greatestBit(int bits) {
        return 31 - Integer.numberOfLeadingZeros(bits);
    }

    private static int idleOf(int colours) {
        if (colours == 0) {
            return 0;
        }
        return greatestBit(colours) - Integer.numberOfTrailingZeros(colours) - Integer.bitCount(colours) + 1;
    }

    private int countUnlike() {
        int unlike = 0;
        for (int line = 0; line < net.lines; line++) {
            if (kept[line] != now.colourOf[line]) {
                unlike++;
            }
        }
        return unlike;
    }

    /** Two lines must have one colour in both colourings or in neither: then an exchange does it. */
    private boolean isLikeKept() {
        for (int a = 0; a < net.lines; a++) {
            if ((kept[a] == BARE) != (now.colourOf[a] == BARE)) {
                return false;
            }
            for (int b = 0; b < a; b++) {
                if ((kept[a] == kept[b]) != (now.colourOf[a] == now.colourOf[b])) {
                    return false;
                }
            }
        }
        return true;
    }

    private boolean areAllBelow(int[] colours, int k) {
        for (int line = 0; line < net.lines; line++) {
            if (colours[line] == BARE || colours[line] >= k) {
                return false;
            }
        }
        return true;
    }

    private int countEasy() {
        int belowDegree = (1 << net.degree) - 1;
        int easy = 0;
        for (int line = 0; line < net.lines; line++) {
            if (now.colourOf[line] == BARE && (now.freeAtBoth(line) & belowDegree) != 0) {
                easy++;
            }
        }
        return easy;
    }

    /** Posts and lines without their colours; sets of them are bits. */
    private static final class Network {
        private final int[] low = new int[MOST_LINES];
        private final int[] high = new int[MOST_LINES];
        private final int[] meeting = new int[MOST_LINES];
        private final int[] linesAt = new int[MOST_POSTS];
        private final int[] nextTo = new int[MOST_POSTS];
        private int posts = 1;
        private int lines = 0;
        private int degree = 0;

        private void clear(int n) {
            posts = n;
            lines = 0;
            degree = 0;
            Arrays.fill(linesAt, 0);
            Arrays.fill(nextTo, 0);
        }

        private void add(int a, int b) {
            int line = lines;
            int others = linesAt[a] | linesAt[b];
            for (int i = 0; i < line; i++) {
                if ((others >> i & 1) != 0) {
                    meeting[i] |= 1 << line;
                }
            }
            low[line] = Math.min(a, b);
            high[line] = Math.max(a, b);
            meeting[line] = others;
            linesAt[a] |= 1 << line;
            linesAt[b] |= 1 << line;
            nextTo[a] |= 1 << b;
            nextTo[b] |= 1 << a;
            lines++;
            degree = mostAtOnePost(allLines());
        }

        private boolean isPost(int post) {
            return post >= 0 && post < posts;
        }

        private boolean isLine(int line) {
            return line >= 0 && line < lines;
        }

        private int allPosts() {
            return (1 << posts) - 1;
        }

        private int allLines() {
            return (1 << lines) - 1;
        }

        private int farEnd(int line, int post) {
            return low[line] == post ? high[line] : low[line];
        }

        private int lineBetween(int a, int b) {
            int shared = linesAt[a] & linesAt[b];
            return shared == 0 ? NONE : Integer.numberOfTrailingZeros(shared);
        }

        private int mostAtOnePost(int among) {
            int most = 0;
            for (int post = 0; post < posts; post++) {
                most = Math.max(most, Integer.bitCount(linesAt[post] & among));
            }
            return most;
        }

        private int leastPostAbove(int k) {
            for (int post = 0; post < posts; post++) {
                if (Integer.bitCount(linesAt[post]) > k) {
                    return post;
                }
            }
            return NONE;
        }

        private int postsOf(int among) {
            int touched = 0;
            for (int post = 0; post < posts; post++) {
                if ((linesAt[post] & among) != 0) {
                    touched |= 1 << post;
                }
            }
            return touched;
        }

        private int linesWithin(int set, int among) {
            int leaving = 0;
            for (int post = 0; post < posts; post++) {
                if ((set >> post & 1) == 0) {
                    leaving |= linesAt[post];
                }
            }
            return Integer.bitCount(among & ~leaving);
        }

        /** The least odd set of posts that has more lines within than k colours can hold; 0: none. */
        private int crowdedSet(int among, int k) {
            for (int set = 7; set <= allPosts(); set++) {
                int size = Integer.bitCount(set);
                if (size >= 3 && size % 2 == 1 && linesWithin(set, among) > k * (size / 2)) {
                    return set;
                }
            }
            return 0;
        }

        /** All lines of the pool to which one comes from the start along lines of the pool. */
        private int joined(int start, int pool) {
            int got = start & pool;
            int waiting = got;
            for (int step = 0; step < MOST_LINES && waiting != 0; step++) {
                int line = Integer.numberOfTrailingZeros(waiting);
                int more = meeting[line] & pool & ~got;
                got |= more;
                waiting = (waiting & ~(1 << line)) | more;
            }
            return got;
        }

        private int neighbours(int set) {
            int reached = 0;
            for (int post = 0; post < posts; post++) {
                if ((set >> post & 1) != 0) {
                    reached |= nextTo[post];
                }
            }
            return reached;
        }

        /** Of each part that hangs together the side with its least post; 0: there are no sides. */
        private int onePart() {
            int seen = 0;
            int part = 0;
            for (int post = 0; post < posts; post++) {
                if ((seen >> post & 1) == 0) {
                    int here = 1 << post;
                    int there = 0;
                    for (int step = 0; step < posts; step++) {
                        there |= neighbours(here);
                        here |= neighbours(there);
                    }
                    if ((here & there) != 0) {
                        return 0;
                    }
                    seen |= here | there;
                    part |= here;
                }
            }
            return part;
        }

        /** The shortest odd walk that ends where it began never crosses itself, so it is a round. */
        private int leastOddRound() {
            int least = 0;
            for (int post = 0; post < posts; post++) {
                int reached = 1 << post;
                for (int length = 1; length <= posts; length++) {
                    reached = neighbours(reached);
                    boolean closed = length % 2 == 1 && (reached >> post & 1) != 0;
                    if (closed && (least == 0 || length < least)) {
                        least = length;
                    }
                }
            }
            return least;
        }
    }

    /** The colours that lines have now. */
    private static final class Colouring {
        private final Network net;
        private final int[] colourOf = new int[MOST_LINES];
        private final int[] linesOf = new int[MOST_COLOURS];

        private Colouring(Network net) {
            this.net = net;
            Arrays.fill(colourOf, BARE);
        }

        private void clear() {
            Arrays.fill(colourOf, BARE);
            Arrays.fill(linesOf, 0);
        }

        private int colours() {
            return net.degree + 1;
        }

        private boolean isColour(int colour) {
            return colour >= 0 && colour < colours();
        }

        private boolean areUnlike(int one, int other) {
            return isColour(one) && isColour(other) && one != other;
        }

        private int bareLines() {
            int bare = net.allLines();
            for (int colour = 0; colour < MOST_COLOURS; colour++) {
                bare &= ~linesOf[colour];
            }
            return bare;
        }

        private int usedColours() {
            int used = 0;
            for (int colour = 0; colour < MOST_COLOURS; colour++) {
                if (linesOf[colour] != 0) {
                    used++;
                }
            }
            return used;
        }

        private int unevenness() {
            int most = 0;
            int fewest = MOST_LINES;
            for (int colour = 0; colour < MOST_COLOURS; colour++) {
                if (linesOf[colour] != 0) {
                    most = Math.max(most, Integer.bitCount(linesOf[colour]));
                    fewest = Math.min(fewest, Integer.bitCount(linesOf[colour]));
                }
            }
            return Math.max(0, most - fewest);
        }

        private int coloursAt(int post) {
            int found = 0;
            for (int colour = 0; colour < MOST_COLOURS; colour++) {
                if ((linesOf[colour] & net.linesAt[post]) != 0) {
                    found |= 1 << colour;
                }
            }
            return found;
        }

        private int freeAt(int post) {
            return ((1 << colours()) - 1) & ~coloursAt(post);
        }

        private int freeAtBoth(int line) {
            return freeAt(net.low[line]) & freeAt(net.high[line]);
        }

        /** A post has one colour fewer at least than there are, so some colour is free. */
        private int leastFreeAt(int post) {
            return Integer.numberOfTrailingZeros(freeAt(post));
        }

        private boolean isFreeAt(int post, int colour) {
            return (freeAt(post) >> colour & 1) != 0;
        }

        private int lineWith(int post, int colour) {
            int found = net.linesAt[post] & linesOf[colour];
            return found == 0 ? NONE : Integer.numberOfTrailingZeros(found);
        }

        private void strip(int line) {
            int colour = colourOf[line];
            if (colour != BARE) {
                linesOf[colour] &= ~(1 << line);
                colourOf[line] = BARE;
            }
        }

        private void give(int line, int colour) {
            strip(line);
            linesOf[colour] |= 1 << line;
            colourOf[line] = colour;
        }

        private int chainOf(int post, int one, int other) {
            return net.joined(net.linesAt[post], linesOf[one] | linesOf[other]);
        }

        /** The lines all have one of both colours; each gets the other one. */
        private void flip(int lines, int one, int other) {
            linesOf[one] ^= lines;
            linesOf[other] ^= lines;
            for (int line = 0; line < net.lines; line++) {
                if ((lines >> line & 1) != 0) {
                    colourOf[line] = colourOf[line] == one ? other : one;
                }
            }
        }

        /** Only where there are sides: there the chain never comes to the line's lesser post. */
        private void giveBelowDegree(int line) {
            int shared = freeAtBoth(line) & ((1 << net.degree) - 1);
            if (shared != 0) {
                give(line, Integer.numberOfTrailingZeros(shared));
                return;
            }
            int a = leastFreeAt(net.low[line]);
            int b = leastFreeAt(net.high[line]);
            flip(chainOf(net.high[line], a, b), a, b);
            give(line, a);
        }
    }

    /** The row of posts around one end of a line without colour. */
    private static final class Fan {
        private final Network net;
        private final Colouring now;
        private final int[] row = new int[MOST_POSTS];
        private int size = 0;

        private Fan(Network net, Colouring now) {
            this.net = net;
            this.now = now;
        }

        private void lay(int line, int hub) {
            row[0] = net.farEnd(line, hub);
            size = 1;
            int inRow = 1 << row[0];
            for (int place = 1; place < MOST_POSTS; place++) {
                int next = follower(hub, row[place - 1], inRow);
                if (next == NONE) {
                    return;
                }
                row[place] = next;
                inRow |= 1 << next;
                size = place + 1;
            }
        }

        private int follower(int hub, int last, int inRow) {
            int open = now.freeAt(last);
            for (int colour = 0; colour < MOST_COLOURS; colour++) {
                int line = now.lineWith(hub, colour);
                if ((open >> colour & 1) != 0 && line != NONE) {
                    int end = net.farEnd(line, hub);
                    if ((inRow >> end & 1) == 0) {
                        return end;
                    }
                }
            }
            return NONE;
        }

        /** The first post that lacks the colour, as long as the row up to it is a fan still. */
        private int placeLacking(int hub, int colour) {
            for (int place = 0; place < size; place++) {
                if (place > 0 && !follows(hub, place)) {
                    return NONE;
                }
                if (now.isFreeAt(row[place], colour)) {
                    return place;
                }
            }
            return NONE;
        }

        private boolean follows(int hub, int place) {
            int line = net.lineBetween(hub, row[place]);
            if (line == NONE || now.colourOf[line] == BARE) {
                return false;
            }
            return now.isFreeAt(row[place - 1], now.colourOf[line]);
        }

        /** Each line ahead of the place takes the next one's colour; bared first, none meets its like. */
        private void shift(int hub, int place, int colour) {
            int line = net.lineBetween(hub, row[0]);
            for (int i = 1; i <= place && line != NONE; i++) {
                int next = net.lineBetween(hub, row[i]);
                if (next != NONE && now.colourOf[next] != BARE) {
                    int given = now.colourOf[next];
                    now.strip(next);
                    now.give(line, given);
                }
                line = next;
            }
            if (line != NONE) {
                now.give(line, colour);
            }
        }
    }

    /** Gives a line without colour one by a fan and a chain, and remembers how. */
    private static final class Grower {
        private final Network net;
        private final Colouring now;
        private final Fan fan;
        private final int[] last = new int[5];
        private boolean any = false;

        private Grower(Network net, Colouring now, Fan fan) {
            this.net = net;
            this.now = now;
            this.fan = fan;
        }

        private void raise(int line) {
            int hub = net.low[line];
            fan.lay(line, hub);
            int c = now.leastFreeAt(hub);
            int d = now.leastFreeAt(fan.row[fan.size - 1]);
            int turned = 0;
            if (!now.isFreeAt(hub, d)) {
                int chain = now.chainOf(hub, c, d);
                now.flip(chain, c, d);
                turned = Integer.bitCount(chain);
            }
            int place = fan.placeLacking(hub, d);
            if (place != NONE) {
                fan.shift(hub, place, d);
            }
            last[0] = c;
            last[1] = d;
            last[2] = fan.size;
            last[3] = place;
            last[4] = turned;
            any = true;
        }
    }

    /** Goes through the chains of two colours. */
    private static final class ChainWalk {
        private final Network net;
        private final Colouring now;

        private ChainWalk(Network net, Colouring now) {
            this.net = net;
            this.now = now;
        }

        private int countChains(int one, int other) {
            int pool = now.linesOf[one] | now.linesOf[other];
            int rest = pool;
            int found = 0;
            for (int line = 0; line < net.lines; line++) {
                if ((rest >> line & 1) != 0) {
                    rest &= ~net.joined(1 << line, pool);
                    found++;
                }
            }
            return found;
        }

        private int longestChain(int one, int other) {
            int pool = now.linesOf[one] | now.linesOf[other];
            int rest = pool;
            int best = 0;
            for (int line = 0; line < net.lines; line++) {
                if ((rest >> line & 1) != 0) {
                    int chain = net.joined(1 << line, pool);
                    rest &= ~chain;
                    if (Integer.bitCount(chain) > Integer.bitCount(best)) {
                        best = chain;
                    }
                }
            }
            return best;
        }

        /** By lines upwards, so the first chain that has more of the one is that with the least line. */
        private int leaningChain(int one, int other) {
            int pool = now.linesOf[one] | now.linesOf[other];
            int rest = pool;
            for (int line = 0; line < net.lines; line++) {
                if ((rest >> line & 1) != 0) {
                    int chain = net.joined(1 << line, pool);
                    rest &= ~chain;
                    if (Integer.bitCount(chain & now.linesOf[one]) > Integer.bitCount(chain & now.linesOf[other])) {
                        return chain;
                    }
                }
            }
            return 0;
        }

        private int makeEven() {
            for (int turned = 0; turned < MOST_TURNS; turned++) {
                int most = 0;
                int fewest = 0;
                for (int colour = 1; colour <= greatestUsed(); colour++) {
                    most = howMany(colour) > howMany(most) ? colour : most;
                    fewest = howMany(colour) < howMany(fewest) ? colour : fewest;
                }
                if (howMany(most) < howMany(fewest) + 2) {
                    return turned;
                }
                now.flip(leaningChain(most, fewest), most, fewest);
            }
            return MOST_TURNS;
        }

        private int howMany(int colour) {
            return Integer.bitCount(now.linesOf[colour]);
        }

        private int greatestUsed() {
            int greatest = NONE;
            for (int colour = 0; colour < MOST_COLOURS; colour++) {
                if (now.linesOf[colour] != 0) {
                    greatest = colour;
                }
            }
            return greatest;
        }
    }

    /** Looks for the exchange of two colours that leaves posts the least idle. */
    private static final class Calmer {
        private final Network net;
        private final Colouring now;
        private int less = 0;
        private int one = 0;
        private int other = 0;

        private Calmer(Network net, Colouring now) {
            this.net = net;
            this.now = now;
        }

        private int idleOfAll(int a, int b) {
            int sum = 0;
            for (int post = 0; post < net.posts; post++) {
                int colours = now.coloursAt(post);
                boolean hasOneOfBoth = (colours >> a & 1) != (colours >> b & 1);
                sum += idleOf(hasOneOfBoth ? colours ^ (1 << a | 1 << b) : colours);
            }
            return sum;
        }

        private void look() {
            int idle = idleOfAll(0, 0);
            less = 0;
            for (int a = 0; a < now.colours(); a++) {
                for (int b = a + 1; b < now.colours(); b++) {
                    int gain = idle - idleOfAll(a, b);
                    if (gain > less) {
                        less = gain;
                        one = a;
                        other = b;
                    }
                }
            }
        }
    }

    /** Looks for colourings in which each line has a colour of a set of its own. */
    private static final class Search {
        private static final int UNKNOWN = -1;
        private static final int BY_LISTS = 10;

        private final Network net;
        private final int[] open = new int[MOST_COLOURS];
        private final int[] chosen = new int[MOST_LINES];
        private final int[] answer = new int[MOST_LINES];
        private int answerFor = UNKNOWN;
        private boolean hasAnswer = false;
        private int fewestKnown = UNKNOWN;
        private int dearKnown = UNKNOWN;

        private Search(Network net) {
            this.net = net;
        }

        private void forget() {
            fewestKnown = UNKNOWN;
            dearKnown = UNKNOWN;
            forgetAnswer();
        }

        private void forgetAnswer() {
            answerFor = UNKNOWN;
        }

        /** One colour over the degree always does, so only the degree itself is in doubt. */
        private int fewest() {
            if (fewestKnown == UNKNOWN) {
                fewestKnown = canDo(net.allLines(), net.degree) ? net.degree : net.degree + 1;
            }
            return fewestKnown;
        }

        /** The lines without which fewer colours do. */
        private int dearLines() {
            if (dearKnown == UNKNOWN) {
                int dear = 0;
                for (int line = 0; line < net.lines; line++) {
                    if (canDo(net.allLines() & ~(1 << line), fewest() - 1)) {
                        dear |= 1 << line;
                    }
                }
                dearKnown = dear;
            }
            return dearKnown;
        }

        private boolean canDo(int lines, int k) {
            int most = net.mostAtOnePost(lines);
            if (most != k) {
                return most < k;
            }
            if (net.crowdedSet(lines, k) != 0) {
                return false;
            }
            openBelow(k);
            return complete(lines, 0);
        }

        private boolean findFirst(int k) {
            if (answerFor != k) {
                answerFor = k;
                hasAnswer = k >= fewest();
                if (hasAnswer) {
                    openBelow(k);
                    hasAnswer = findLeast();
                }
            }
            return hasAnswer;
        }

        private boolean findListed(int[] lists) {
            if (answerFor != BY_LISTS) {
                answerFor = BY_LISTS;
                openListed(lists);
                hasAnswer = findLeast();
            }
            return hasAnswer;
        }

        private void openBelow(int k) {
            for (int colour = 0; colour < MOST_COLOURS; colour++) {
                open[colour] = colour < k ? net.allLines() : 0;
            }
        }

        private void openListed(int[] lists) {
            for (int colour = 0; colour < MOST_COLOURS; colour++) {
                open[colour] = 0;
                for (int line = 0; line < net.lines; line++) {
                    open[colour] |= (lists[line] >> colour & 1) << line;
                }
            }
        }

        /** Line by line the least colour with which the rest can be completed still. */
        private boolean findLeast() {
            int left = net.allLines();
            if (!complete(left, 0)) {
                return false;
            }
            for (int line = 0; line < net.lines; line++) {
                left &= ~(1 << line);
                fixLeast(line, left);
                answer[line] = chosen[line];
                open[chosen[line]] &= ~net.meeting[line];
            }
            return true;
        }

        /** What is chosen is a completion already: only lesser colours are to be tried. */
        private void fixLeast(int line, int left) {
            for (int colour = 0; colour < chosen[line]; colour++) {
                if ((open[colour] >> line & 1) != 0 && completeWith(line, colour, left, 0)) {
                    return;
                }
            }
        }

        private boolean completeWith(int line, int colour, int left, int depth) {
            int before = open[colour];
            open[colour] = before & ~net.meeting[line];
            boolean done = complete(left, depth);
            open[colour] = before;
            if (done) {
                chosen[line] = colour;
            }
            return done;
        }

        private boolean complete(int left, int depth) {
            if (left == 0) {
                return true;
            }
            int line = tightest(left);
            if (depth >= MOST_LINES || line == NONE || isHopeless(left)) {
                return false;
            }
            int rest = left & ~(1 << line);
            for (int colour = 0; colour < MOST_COLOURS; colour++) {
                boolean fits = (open[colour] >> line & 1) != 0 && !hasTwin(colour, left);
                if (fits && completeWith(line, colour, rest, depth + 1)) {
                    return true;
                }
            }
            return false;
        }

        /** A lesser colour that is open to the same lines fares no better and no worse. */
        private boolean hasTwin(int colour, int left) {
            for (int lesser = 0; lesser < colour; lesser++) {
                if (((open[lesser] ^ open[colour]) & left) == 0) {
                    return true;
                }
            }
            return false;
        }

        /** The line to which fewest colours are open; NONE: to some line none is. */
        private int tightest(int left) {
            int best = NONE;
            int fewestOpen = MOST_COLOURS + 1;
            for (int line = 0; line < net.lines; line++) {
                if ((left >> line & 1) != 0) {
                    int here = 0;
                    for (int colour = 0; colour < MOST_COLOURS; colour++) {
                        here += open[colour] >> line & 1;
                    }
                    if (here < fewestOpen) {
                        fewestOpen = here;
                        best = line;
                    }
                }
            }
            return fewestOpen == 0 ? NONE : best;
        }

        private boolean isHopeless(int left) {
            return roomOfColours(left) < Integer.bitCount(left) || hasCrampedPost(left);
        }

        /** How many lines the colours could hold at most, each at half of the posts open to it. */
        private int roomOfColours(int left) {
            int room = 0;
            for (int colour = 0; colour < MOST_COLOURS; colour++) {
                room += Integer.bitCount(net.postsOf(open[colour] & left)) / 2;
            }
            return room;
        }

        /** Whether some post has more lines left than colours are open to these. */
        private boolean hasCrampedPost(int left) {
            for (int post = 0; post < net.posts; post++) {
                int here = left & net.linesAt[post];
                int usable = 0;
                for (int colour = 0; colour < MOST_COLOURS; colour++) {
                    if ((open[colour] & here) != 0) {
                        usable++;
                    }
                }
                if (usable < Integer.bitCount(here)) {
                    return true;
                }
            }
            return false;
        }
    }

    /** Sets of lines no two of which share a post. */
    private static final class Apart {
        private final Network net;
        private final int[] howMany = new int[MOST_APART + 1];
        private final int[] least = new int[MOST_APART + 1];

        private Apart(Network net) {
            this.net = net;
        }

        private void gatherAll() {
            Arrays.fill(howMany, 0);
            gather(0, 0, 0, 0);
        }

        private void gather(int from, int shut, int set, int size) {
            if (howMany[size] == 0 || set < least[size]) {
                least[size] = set;
            }
            howMany[size]++;
            if (size >= MOST_APART) {
                return;
            }
            for (int line = from; line < net.lines; line++) {
                if ((shut >> line & 1) == 0) {
                    gather(line + 1, shut | net.meeting[line], set | 1 << line, size + 1);
                }
            }
        }

        private int most() {
            int most = 0;
            for (int size = 0; size <= MOST_APART; size++) {
                if (howMany[size] > 0) {
                    most = size;
                }
            }
            return most;
        }
    }

    /** Shares few lines out into groups of lines apart, to count colourings without making each. */
    private static final class Sharing {
        private final Network net;
        private final int[] groups = new int[COUNTED_LINES];
        private final int[] howMany = new int[COUNTED_LINES + 1];

        private Sharing(Network net) {
            this.net = net;
        }

        private long countColourings(int k) {
            Arrays.fill(howMany, 0);
            Arrays.fill(groups, 0);
            share(0, 0);
            long sum = 0;
            long namings = 1;
            for (int used = 0; used <= COUNTED_LINES; used++) {
                sum += howMany[used] * namings;
                namings *= k - used;
            }
            return sum;
        }

        private void share(int line, int used) {
            if (line >= net.lines || line >= COUNTED_LINES) {
                howMany[used]++;
                return;
            }
            for (int group = 0; group <= used && group < COUNTED_LINES; group++) {
                if ((groups[group] & net.meeting[line]) == 0) {
                    groups[group] |= 1 << line;
                    share(line + 1, Math.max(used, group + 1));
                    groups[group] &= ~(1 << line);
                }
            }
        }
    }

    /** Colourings of few lines by few colours as codes, two bits a line, and the chains between them. */
    private static final class Turning {
        private static final int CODE_BITS = 12;
        private static final int LOW_BITS = 0x555;
        private static final int WORDS = (1 << CODE_BITS) / 32;

        private final Network net;
        private final int[] meets = new int[TURNED_LINES];
        private final int[] seen = new int[WORDS];
        private final int[] edge = new int[WORDS];
        private final int[] next = new int[WORDS];
        private int colours = 1;
        private int kindsFound = 0;

        private Turning(Network net) {
            this.net = net;
        }

        private int countKinds(int k) {
            prepare(k);
            kindsFound = 0;
            place(0, 0);
            return kindsFound;
        }

        private int fewestTurns(int[] from, int[] to, int k) {
            prepare(k);
            int goal = codeOf(to);
            mark(codeOf(from));
            for (int turned = 0; turned <= 1 << CODE_BITS; turned++) {
                if (isSeen(goal)) {
                    return turned;
                }
                if (!advance()) {
                    return NOT_SO;
                }
            }
            return NOT_SO;
        }

        private void prepare(int k) {
            colours = k;
            Arrays.fill(seen, 0);
            Arrays.fill(next, 0);
            for (int line = 0; line < net.lines && line < TURNED_LINES; line++) {
                meets[line] = spread(net.meeting[line]);
            }
        }

        private static int spread(int lines) {
            int wide = 0;
            for (int line = 0; line < TURNED_LINES; line++) {
                wide |= (lines >> line & 1) << 2 * line;
            }
            return wide;
        }

        private int codeOf(int[] colouring) {
            int code = 0;
            for (int line = 0; line < net.lines && line < TURNED_LINES; line++) {
                code |= (colouring[line] & 3) << 2 * line;
            }
            return code;
        }

        /** Goes through all colourings; each that no chains have come to yet begins a kind. */
        private void place(int line, int code) {
            if (line >= net.lines || line >= TURNED_LINES) {
                if (!isSeen(code)) {
                    kindsFound++;
                    mark(code);
                    spreadKind();
                }
                return;
            }
            int before = (1 << 2 * line) - 1;
            for (int colour = 0; colour < colours; colour++) {
                if ((linesWith(code, colour) & before & meets[line]) == 0) {
                    place(line + 1, code | colour << 2 * line);
                }
            }
        }

        private void spreadKind() {
            for (int step = 0; step <= 1 << CODE_BITS; step++) {
                if (!advance()) {
                    return;
                }
            }
        }

        private boolean isSeen(int code) {
            return (seen[code >> 5] >> (code & 31) & 1) != 0;
        }

        private void mark(int code) {
            if (!isSeen(code)) {
                seen[code >> 5] |= 1 << (code & 31);
                next[code >> 5] |= 1 << (code & 31);
            }
        }

        /** Turns one chain more in each colouring that was new; false: none was. */
        private boolean advance() {
            boolean any = false;
            System.arraycopy(next, 0, edge, 0, WORDS);
            Arrays.fill(next, 0);
            for (int word = 0; word < WORDS; word++) {
                for (int bit = 0; bit < 32 && edge[word] != 0; bit++) {
                    if ((edge[word] >> bit & 1) != 0) {
                        turnEach(word << 5 | bit);
                        any = true;
                    }
                }
            }
            return any;
        }

        private void turnEach(int code) {
            for (int one = 0; one < colours; one++) {
                for (int other = one + 1; other < colours; other++) {
                    int pool = linesWith(code, one) | linesWith(code, other);
                    int rest = pool;
                    for (int step = 0; step < TURNED_LINES && rest != 0; step++) {
                        int chain = joinedIn(Integer.lowestOneBit(rest), pool);
                        rest &= ~chain;
                        mark(code ^ chain * (one ^ other));
                    }
                }
            }
        }

        /** The lines that have the colour, as the low bits of their fields. */
        private int linesWith(int code, int colour) {
            int differing = code ^ colour * LOW_BITS;
            return ~(differing | differing >> 1) & LOW_BITS & ((1 << 2 * net.lines) - 1);
        }

        private int joinedIn(int start, int pool) {
            int got = start;
            int waiting = start;
            for (int step = 0; step < TURNED_LINES && waiting != 0; step++) {
                int bit = Integer.lowestOneBit(waiting);
                int more = meets[Integer.numberOfTrailingZeros(bit) / 2] & pool & ~got;
                got |= more;
                waiting = (waiting & ~bit) | more;
            }
            return got;
        }
    }
}
