import java.util.ArrayDeque;
import java.util.ArrayList;
import java.util.Arrays;
import java.util.Deque;
import java.util.HashMap;
import java.util.List;
import java.util.Map;
import java.util.TreeSet;

/**
 * The document's words put into Java as plainly as can be, without care for speed: what
 * LineColours answers is held against this. Shares no code and no representation with it.
 */
final class Plain {
    /** Said where plain trying takes too long; the caller then asks for nothing. */
    static final class TooHard extends RuntimeException {
        private static final long serialVersionUID = 1L;
    }

    private static final int MOST_TRIES = 300_000;

    private int n = 1;
    private final List<int[]> ends = new ArrayList<>();
    private List<Integer> colours = new ArrayList<>();
    private final List<Integer> lists = new ArrayList<>();
    private List<Integer> kept = null;
    private int[] grown = null;
    private int tries;

    // ---- the terms

    boolean isPost(int p) {
        return 0 <= p && p < n;
    }

    boolean isLine(int l) {
        return 0 <= l && l < ends.size();
    }

    boolean isColour(int c) {
        return 0 <= c && c <= degree();
    }

    int lines() {
        return ends.size();
    }

    boolean ends(int l, int p) {
        return ends.get(l)[0] == p || ends.get(l)[1] == p;
    }

    int farEnd(int l, int p) {
        return ends.get(l)[0] == p ? ends.get(l)[1] : ends.get(l)[0];
    }

    boolean meet(int a, int b) {
        return a != b && (ends(a, ends.get(b)[0]) || ends(a, ends.get(b)[1]));
    }

    int degree() {
        return degree(ends);
    }

    static int degree(List<int[]> net) {
        int most = 0;
        for (int p = 0; p < 9; p++) {
            int here = 0;
            for (int[] e : net) {
                here += e[0] == p || e[1] == p ? 1 : 0;
            }
            most = Math.max(most, here);
        }
        return most;
    }

    TreeSet<Integer> freeAt(int p) {
        TreeSet<Integer> free = new TreeSet<>();
        for (int c = 0; c <= degree(); c++) {
            free.add(c);
        }
        for (int l = 0; l < lines(); l++) {
            if (ends(l, p) && colours.get(l) != null) {
                free.remove(colours.get(l));
            }
        }
        return free;
    }

    boolean has(List<Integer> colouring, int l, int one, int other) {
        return colouring.get(l) != null && (colouring.get(l) == one || colouring.get(l) == other);
    }

    /** Lines of the chain, found by widening the set of posts till nothing is added. */
    TreeSet<Integer> chainOf(List<Integer> colouring, int post, int one, int other) {
        TreeSet<Integer> posts = new TreeSet<>(List.of(post));
        TreeSet<Integer> found = new TreeSet<>();
        boolean more = true;
        while (more) {
            more = false;
            for (int l = 0; l < lines(); l++) {
                int[] e = ends.get(l);
                if (has(colouring, l, one, other) && (posts.contains(e[0]) || posts.contains(e[1]))) {
                    more |= found.add(l) | posts.add(e[0]) | posts.add(e[1]);
                }
            }
        }
        return found;
    }

    static List<Integer> turned(List<Integer> colouring, Iterable<Integer> chain, int one, int other) {
        List<Integer> next = new ArrayList<>(colouring);
        for (int l : chain) {
            next.set(l, colouring.get(l) == one ? other : one);
        }
        return next;
    }

    /** All chains with a line, those with the least line ahead. */
    List<TreeSet<Integer>> chainsOf(List<Integer> colouring, int one, int other) {
        List<TreeSet<Integer>> all = new ArrayList<>();
        for (int l = 0; l < lines(); l++) {
            if (has(colouring, l, one, other)) {
                TreeSet<Integer> chain = chainOf(colouring, ends.get(l)[0], one, other);
                if (chain.first() == l) {
                    all.add(chain);
                }
            }
        }
        return all;
    }

    static int bits(Iterable<Integer> set) {
        int bits = 0;
        for (int i : set) {
            bits |= 1 << i;
        }
        return bits;
    }

    // ---- what is laid and painted

    boolean begin(int posts) {
        if (posts < 1 || posts > 9) {
            return false;
        }
        n = posts;
        ends.clear();
        colours.clear();
        lists.clear();
        kept = null;
        grown = null;
        return true;
    }

    int lineBetween(int a, int b) {
        for (int l = 0; l < lines(); l++) {
            if (ends(l, a) && ends(l, b)) {
                return l;
            }
        }
        return -1;
    }

    int line(int a, int b) {
        if (!isPost(a) || !isPost(b) || a == b || lineBetween(a, b) >= 0 || lines() == 20) {
            return -1;
        }
        ends.add(new int[] {Math.min(a, b), Math.max(a, b)});
        colours.add(null);
        lists.add(511);
        return lines() - 1;
    }

    boolean paint(int l, int c) {
        if (!isLine(l) || !isColour(c)) {
            return false;
        }
        if (!freeAt(ends.get(l)[0]).contains(c) || !freeAt(ends.get(l)[1]).contains(c)) {
            return false;
        }
        colours.set(l, c);
        return true;
    }

    int bare(int l) {
        if (!isLine(l) || colours.get(l) == null) {
            return -1;
        }
        return colours.set(l, null);
    }

    boolean areColours(int one, int other) {
        return isColour(one) && isColour(other) && one != other;
    }

    int turn(int post, int one, int other) {
        if (!isPost(post) || !areColours(one, other)) {
            return -1;
        }
        TreeSet<Integer> chain = chainOf(colours, post, one, other);
        colours = turned(colours, chain, one, other);
        return chain.size();
    }

    int swap(int one, int other) {
        if (!areColours(one, other)) {
            return -1;
        }
        List<Integer> next = swapped(one, other);
        int changed = unlikeCount(colours, next);
        colours = next;
        return changed;
    }

    List<Integer> swapped(int one, int other) {
        List<Integer> next = new ArrayList<>(colours);
        for (int l = 0; l < lines(); l++) {
            if (has(colours, l, one, other)) {
                next.set(l, one + other - colours.get(l));
            }
        }
        return next;
    }

    List<Integer> fanOf(int l, int x) {
        List<Integer> row = new ArrayList<>(List.of(farEnd(l, x)));
        while (true) {
            TreeSet<Integer> free = freeAt(row.get(row.size() - 1));
            int bestColour = 99;
            int bestPost = -1;
            for (int other = 0; other < lines(); other++) {
                Integer c = colours.get(other);
                if (ends(other, x) && c != null && free.contains(c) && !row.contains(farEnd(other, x)) && c < bestColour) {
                    bestColour = c;
                    bestPost = farEnd(other, x);
                }
            }
            if (bestPost < 0) {
                return row;
            }
            row.add(bestPost);
        }
    }

    int grow(int l) {
        if (!isLine(l)) {
            return -1;
        }
        if (colours.get(l) != null) {
            return -2;
        }
        int x = ends.get(l)[0];
        List<Integer> fan = fanOf(l, x);
        int c = freeAt(x).first();
        int d = freeAt(fan.get(fan.size() - 1)).first();
        int turnedLines = freeAt(x).contains(d) ? 0 : turn(x, c, d);
        int w = -1;
        for (int j = 0; j < fan.size() && w < 0; j++) {
            boolean fits = freeAt(fan.get(j)).contains(d);
            for (int i = 1; i <= j; i++) {
                Integer colour = colours.get(lineBetween(x, fan.get(i)));
                fits &= colour != null && freeAt(fan.get(i - 1)).contains(colour);
            }
            w = fits ? j : -1;
        }
        List<Integer> next = new ArrayList<>(colours);
        for (int i = 0; i < w; i++) {
            next.set(lineBetween(x, fan.get(i)), colours.get(lineBetween(x, fan.get(i + 1))));
        }
        next.set(lineBetween(x, fan.get(w)), d);
        colours = next;
        grown = new int[] {c, d, fan.size(), w, turnedLines};
        return colours.get(l);
    }

    int growAll() {
        int had = 0;
        for (int l = 0; l < lines(); l++) {
            if (grow(l) >= 0) {
                had++;
            }
        }
        return had;
    }

    int pair() {
        if (sides(0) == 0) {
            return -2;
        }
        for (int l = 0; l < lines(); l++) {
            colours.set(l, null);
        }
        for (int l = 0; l < lines(); l++) {
            TreeSet<Integer> both = freeAt(ends.get(l)[0]);
            both.retainAll(freeAt(ends.get(l)[1]));
            if (!both.isEmpty() && both.first() < degree()) {
                colours.set(l, both.first());
            } else {
                int a = freeAt(ends.get(l)[0]).first();
                int b = freeAt(ends.get(l)[1]).first();
                turn(ends.get(l)[1], a, b);
                colours.set(l, a);
            }
        }
        return lines();
    }

    int howMany(int c) {
        int found = 0;
        for (Integer colour : colours) {
            found += colour != null && colour == c ? 1 : 0;
        }
        return found;
    }

    int even() {
        int turned = 0;
        while (true) {
            int greatest = -1;
            for (Integer c : colours) {
                greatest = c == null ? greatest : Math.max(greatest, c);
            }
            int most = 0;
            int fewest = 0;
            for (int c = 0; c <= greatest; c++) {
                most = howMany(c) > howMany(most) ? c : most;
                fewest = howMany(c) < howMany(fewest) ? c : fewest;
            }
            if (howMany(most) - howMany(fewest) < 2) {
                return turned;
            }
            for (TreeSet<Integer> chain : chainsOf(colours, most, fewest)) {
                if (lead(chain, most, fewest) > 0) {
                    colours = turned(colours, chain, most, fewest);
                    turned++;
                    break;
                }
            }
        }
    }

    int lead(Iterable<Integer> chain, int one, int other) {
        int lead = 0;
        for (int l : chain) {
            lead += colours.get(l) == one ? 1 : -1;
        }
        return lead;
    }

    boolean take(int k) {
        if (k < 0 || k > degree() + 1) {
            return false;
        }
        List<Integer> found = firstBy(ends, k);
        if (found == null) {
            return false;
        }
        colours = found;
        return true;
    }

    boolean keep() {
        kept = new ArrayList<>(colours);
        return true;
    }

    List<Integer> keptNow() {
        List<Integer> all = new ArrayList<>(kept);
        while (all.size() < lines()) {
            all.add(null);
        }
        return all;
    }

    static int unlikeCount(List<Integer> a, List<Integer> b) {
        int unlike = 0;
        for (int l = 0; l < a.size(); l++) {
            boolean same = a.get(l) == null ? b.get(l) == null : a.get(l).equals(b.get(l));
            unlike += same ? 0 : 1;
        }
        return unlike;
    }

    int back() {
        if (kept == null) {
            return -1;
        }
        int unlike = unlikeCount(keptNow(), colours);
        colours = keptNow();
        return unlike;
    }

    int grown(int what) {
        return grown == null || what < 0 || what > 4 ? -1 : grown[what];
    }

    // ---- what there is

    int of(int l, int what) {
        if (!isLine(l) || what < 0 || what > 3) {
            return -1;
        }
        if (what < 2) {
            return ends.get(l)[what];
        }
        if (what == 2) {
            return colours.get(l) == null ? -2 : colours.get(l);
        }
        int meeting = 0;
        for (int other = 0; other < lines(); other++) {
            meeting |= meet(l, other) ? 1 << other : 0;
        }
        return meeting;
    }

    int lineAt(int p, int c) {
        for (int l = 0; l < lines(); l++) {
            if (ends(l, p) && colours.get(l) != null && colours.get(l) == c) {
                return l;
            }
        }
        return -1;
    }

    int clash(int l, int c) {
        if (!isLine(l) || !isColour(c)) {
            return -1;
        }
        if (colours.get(l) != null && colours.get(l) == c) {
            return l;
        }
        int low = lineAt(ends.get(l)[0], c);
        int high = lineAt(ends.get(l)[1], c);
        return low >= 0 ? low : high >= 0 ? high : -2;
    }

    TreeSet<Integer> coloursAt(int p) {
        return coloursAt(colours, p);
    }

    TreeSet<Integer> coloursAt(List<Integer> colouring, int p) {
        TreeSet<Integer> found = new TreeSet<>();
        for (int l = 0; l < lines(); l++) {
            if (ends(l, p) && colouring.get(l) != null) {
                found.add(colouring.get(l));
            }
        }
        return found;
    }

    int post(int p, int what) {
        if (!isPost(p) || what < 0 || what > 3) {
            return -1;
        }
        int here = 0;
        for (int l = 0; l < lines(); l++) {
            here += ends(l, p) ? 1 : 0;
        }
        switch (what) {
            case 0: return here;
            case 1: return bits(coloursAt(p));
            case 2: return freeAt(p).first();
            default: return coloursAt(p).isEmpty() ? -1 : lineAt(p, coloursAt(p).last());
        }
    }

    int colour(int c, int what) {
        if (!isColour(c) || what < 0 || what > 2) {
            return -1;
        }
        TreeSet<Integer> found = new TreeSet<>();
        for (int i = 0; i < (what == 2 ? n : lines()); i++) {
            if (what == 2 ? freeAt(i).contains(c) : has(colours, i, c, c)) {
                found.add(i);
            }
        }
        return what == 0 ? found.size() : bits(found);
    }

    int chain(int p, int one, int other, int what) {
        if (!isPost(p) || !areColours(one, other)) {
            return -1;
        }
        TreeSet<Integer> found = chainOf(colours, p, one, other);
        TreeSet<Integer> posts = new TreeSet<>(List.of(p));
        int twice = 0;
        for (int l : found) {
            posts.add(ends.get(l)[0]);
            posts.add(ends.get(l)[1]);
        }
        for (int q : posts) {
            int here = 0;
            for (int l : found) {
                here += ends(l, q) ? 1 : 0;
            }
            twice += here == 2 ? 1 : 0;
        }
        switch (what) {
            case 0: return bits(found);
            case 1: return bits(posts);
            case 2: return twice == posts.size() ? 1 : 0;
            case 3: return Integer.signum(lead(found, one, other));
            default: return -2;
        }
    }

    int idleOf(List<Integer> colouring, int p) {
        TreeSet<Integer> here = coloursAt(colouring, p);
        return here.isEmpty() ? 0 : here.last() - here.first() - here.size() + 1;
    }

    int idleOfAll(List<Integer> colouring) {
        int sum = 0;
        for (int p = 0; p < n; p++) {
            sum += idleOf(colouring, p);
        }
        return sum;
    }

    int idle(int p) {
        return p == -1 ? idleOfAll(colours) : isPost(p) ? idleOf(colours, p) : -2;
    }

    int calmer(int what) {
        if (what < 0 || what > 2) {
            return -1;
        }
        int[] best = null;
        for (int one = 0; one <= degree(); one++) {
            for (int other = one + 1; other <= degree(); other++) {
                int less = idleOfAll(colours) - idleOfAll(swapped(one, other));
                if (best == null || less > best[0]) {
                    best = new int[] {less, one, other};
                }
            }
        }
        return best == null || best[0] <= 0 ? -2 : best[what];
    }

    int fan(int l, int p, int i) {
        if (!isLine(l) || !ends(l, p) || i < -1) {
            return -1;
        }
        if (colours.get(l) != null) {
            return -2;
        }
        List<Integer> row = fanOf(l, p);
        return i == -1 ? row.size() : i < row.size() ? row.get(i) : -1;
    }

    // ---- how few do

    static boolean meet(int[] a, int[] b) {
        return a[0] == b[0] || a[0] == b[1] || a[1] == b[0] || a[1] == b[1];
    }

    List<Integer> firstBy(List<int[]> net, int k) {
        List<Integer> sets = new ArrayList<>();
        for (int i = 0; i < net.size(); i++) {
            sets.add((1 << k) - 1);
        }
        return k < degree(net) ? null : firstOf(net, sets);
    }

    List<Integer> firstOf(List<int[]> net, List<Integer> sets) {
        tries = 0;
        List<Integer> sofar = new ArrayList<>();
        return tryNext(net, sets, sofar) ? sofar : null;
    }

    private boolean tryNext(List<int[]> net, List<Integer> sets, List<Integer> sofar) {
        if (++tries > MOST_TRIES) {
            throw new TooHard();
        }
        int l = sofar.size();
        if (l == net.size()) {
            return true;
        }
        for (int c = 0; c < 9; c++) {
            boolean fits = (sets.get(l) >> c & 1) == 1;
            for (int i = 0; i < l && fits; i++) {
                fits = sofar.get(i) != c || !meet(net.get(i), net.get(l));
            }
            if (fits) {
                sofar.add(c);
                if (tryNext(net, sets, sofar)) {
                    return true;
                }
                sofar.remove(l);
            }
        }
        return false;
    }

    int indexOf(List<int[]> net) {
        int k = 0;
        while (firstBy(net, k) == null) {
            k++;
        }
        return k;
    }

    int index() {
        return indexOf(ends);
    }

    int first(int k, int l) {
        if (k < 0 || k > 9 || !isLine(l)) {
            return -1;
        }
        List<Integer> found = firstBy(ends, k);
        return found == null ? -2 : found.get(l);
    }

    int within(int set) {
        int within = 0;
        for (int[] e : ends) {
            within += (set >> e[0] & 1) + (set >> e[1] & 1) == 2 ? 1 : 0;
        }
        return within;
    }

    int crowded(int k) {
        for (int set = 0; set < 1 << n; set++) {
            int size = Integer.bitCount(set);
            if (size >= 3 && size % 2 == 1 && within(set) > k * (size / 2)) {
                return set;
            }
        }
        return -1;
    }

    int overfull(int what) {
        if (what < 0 || what > 2) {
            return -1;
        }
        int set = crowded(degree());
        return set < 0 ? -2 : what == 0 ? set : what == 1 ? within(set) : degree() * (Integer.bitCount(set) / 2);
    }

    int refused(int k, int what) {
        if (k < 0 || k > 9 || what < 0 || what > 1) {
            return -1;
        }
        for (int p = 0; p < n; p++) {
            if (post(p, 0) > k) {
                return what == 0 ? 1 : p;
            }
        }
        if (crowded(k) >= 0) {
            return what == 0 ? 2 : crowded(k);
        }
        return what == 0 && firstBy(ends, k) == null ? 3 : 0;
    }

    int list(int l, int set) {
        return !isLine(l) || set < 0 || set > 511 ? -1 : lists.set(l, set);
    }

    int listed(int l) {
        if (!isLine(l)) {
            return -1;
        }
        if (lines() > 9) {
            return -3;
        }
        List<Integer> found = firstOf(ends, lists);
        return found == null ? -2 : found.get(l);
    }

    int free(int l) {
        if (!isLine(l)) {
            return -1;
        }
        TreeSet<Integer> both = freeAt(ends.get(l)[0]);
        both.retainAll(freeAt(ends.get(l)[1]));
        return bits(both);
    }

    int longest(int what) {
        if (what < 0 || what > 3) {
            return -1;
        }
        int[] best = null;
        for (int one = 0; one <= degree(); one++) {
            for (int other = one + 1; other <= degree(); other++) {
                for (TreeSet<Integer> chain : chainsOf(colours, one, other)) {
                    if (best == null || chain.size() > best[0]) {
                        best = new int[] {chain.size(), one, other, chain.first()};
                    }
                }
            }
        }
        return best == null ? -2 : best[what];
    }

    /** All sets of lines apart, as bits. */
    List<Integer> apartSets() {
        List<Integer> all = new ArrayList<>(List.of(0));
        for (int l = 0; l < lines(); l++) {
            for (int set : new ArrayList<>(all)) {
                boolean fits = true;
                for (int i = 0; i < l; i++) {
                    fits &= (set >> i & 1) == 0 || !meet(i, l);
                }
                if (fits) {
                    all.add(set | 1 << l);
                }
            }
        }
        return all;
    }

    int sets(int m) {
        if (m < 0 || m > 4) {
            return -1;
        }
        int found = 0;
        for (int set : apartSets()) {
            found += Integer.bitCount(set) == m ? 1 : 0;
        }
        return found;
    }

    int critical() {
        int whole = index();
        int found = 0;
        for (int l = 0; l < lines(); l++) {
            List<int[]> rest = new ArrayList<>(ends);
            rest.remove(l);
            found |= indexOf(rest) < whole ? 1 << l : 0;
        }
        return found;
    }

    List<List<Integer>> colouringsBy(int k) {
        List<List<Integer>> all = new ArrayList<>();
        all.add(new ArrayList<>());
        for (int l = 0; l < lines(); l++) {
            List<List<Integer>> longer = new ArrayList<>();
            for (List<Integer> sofar : all) {
                for (int c = 0; c < k; c++) {
                    boolean fits = true;
                    for (int i = 0; i < l; i++) {
                        fits &= sofar.get(i) != c || !meet(i, l);
                    }
                    if (fits) {
                        List<Integer> next = new ArrayList<>(sofar);
                        next.add(c);
                        longer.add(next);
                    }
                }
            }
            all = longer;
        }
        return all;
    }

    /** How many chains must be turned to come from the one colouring to each that can be reached. */
    Map<List<Integer>, Integer> distances(List<Integer> from, int k) {
        Map<List<Integer>, Integer> far = new HashMap<>();
        Deque<List<Integer>> queue = new ArrayDeque<>();
        far.put(from, 0);
        queue.add(from);
        while (!queue.isEmpty()) {
            List<Integer> here = queue.remove();
            for (int one = 0; one < k; one++) {
                for (int other = one + 1; other < k; other++) {
                    for (TreeSet<Integer> chain : chainsOf(here, one, other)) {
                        List<Integer> next = turned(here, chain, one, other);
                        if (far.putIfAbsent(next, far.get(here) + 1) == null) {
                            queue.add(next);
                        }
                    }
                }
            }
        }
        return far;
    }

    int kinds(int k) {
        if (k < 1 || k > 4) {
            return -1;
        }
        if (lines() > 6) {
            return -2;
        }
        Map<List<Integer>, Integer> seen = new HashMap<>();
        int kinds = 0;
        for (List<Integer> colouring : colouringsBy(k)) {
            if (!seen.containsKey(colouring)) {
                kinds++;
                seen.putAll(distances(colouring, k));
            }
        }
        return kinds;
    }

    int turns(int k) {
        if (k < 1 || k > 4 || kept == null || lines() > 6) {
            return -1;
        }
        for (int l = 0; l < lines(); l++) {
            Integer was = keptNow().get(l);
            Integer is = colours.get(l);
            if (was == null || is == null || was >= k || is >= k) {
                return -1;
            }
        }
        return distances(keptNow(), k).getOrDefault(colours, -2);
    }

    int chains(int one, int other) {
        return areColours(one, other) ? chainsOf(colours, one, other).size() : -1;
    }

    int sides(int what) {
        if (what < 0 || what > 2) {
            return -1;
        }
        int[] side = new int[n];
        Arrays.fill(side, -1);
        boolean parted = true;
        for (int p = 0; p < n; p++) {
            if (side[p] < 0) {
                side[p] = 0;
                parted &= paintSides(p, side);
            }
        }
        if (what == 0) {
            return parted ? 1 : 0;
        }
        if (what == 2) {
            return leastOddRound();
        }
        int part = 0;
        for (int p = 0; p < n; p++) {
            part |= side[p] == 0 ? 1 << p : 0;
        }
        return parted ? part : -2;
    }

    private boolean paintSides(int p, int[] side) {
        boolean parted = true;
        for (int l = 0; l < lines(); l++) {
            if (ends(l, p)) {
                int q = farEnd(l, p);
                if (side[q] < 0) {
                    side[q] = 1 - side[p];
                    parted &= paintSides(q, side);
                } else {
                    parted &= side[q] != side[p];
                }
            }
        }
        return parted;
    }

    private int leastOddRound() {
        int least = 0;
        for (int p = 0; p < n; p++) {
            int here = oddRoundFrom(p, p, 1 << p);
            least = here > 0 && (least == 0 || here < least) ? here : least;
        }
        return least;
    }

    /** Goes along every path that never comes twice to a post. */
    private int oddRoundFrom(int start, int p, int been) {
        int least = 0;
        for (int l = 0; l < lines(); l++) {
            if (ends(l, p)) {
                int q = farEnd(l, p);
                int found = 0;
                if (q == start && Integer.bitCount(been) % 2 == 1 && Integer.bitCount(been) >= 3) {
                    found = Integer.bitCount(been);
                } else if ((been >> q & 1) == 0 && q > start) {
                    found = oddRoundFrom(start, q, been | 1 << q);
                }
                least = found > 0 && (least == 0 || found < least) ? found : least;
            }
        }
        return least;
    }

    int apart(int what) {
        if (what < 0 || what > 1) {
            return -1;
        }
        int best = 0;
        for (int set : apartSets()) {
            int more = Integer.bitCount(set) - Integer.bitCount(best);
            best = more > 0 || (more == 0 && set < best) ? set : best;
        }
        return what == 0 ? Integer.bitCount(best) : best;
    }

    long ways(int k) {
        if (k < 0 || k > 9) {
            return -1;
        }
        if (lines() > 9) {
            return -2;
        }
        List<Integer> apart = apartSets();
        long[] ways = new long[1 << lines()];
        ways[0] = 1;
        for (int c = 0; c < k; c++) {
            long[] next = new long[1 << lines()];
            for (int set = 0; set < 1 << lines(); set++) {
                for (int part : apart) {
                    if ((part & ~set) == 0) {
                        next[set] += ways[set & ~part];
                    }
                }
            }
            ways = next;
        }
        return ways[(1 << lines()) - 1];
    }

    static boolean comesOf(List<Integer> a, List<Integer> b) {
        Map<Integer, Integer> exchange = new HashMap<>();
        for (int l = 0; l < a.size(); l++) {
            Integer from = a.get(l) == null ? -1 : a.get(l);
            Integer to = b.get(l) == null ? -1 : b.get(l);
            if ((from == -1) != (to == -1) || !exchange.getOrDefault(from, to).equals(to)) {
                return false;
            }
            exchange.put(from, to);
        }
        return true;
    }

    int unlike(int what) {
        if (what < 0 || what > 1) {
            return -1;
        }
        if (kept == null) {
            return -2;
        }
        if (what == 0) {
            return unlikeCount(keptNow(), colours);
        }
        return comesOf(keptNow(), colours) && comesOf(colours, keptNow()) ? 1 : 0;
    }

    int count(int what) {
        int bare = 0;
        int easy = 0;
        for (int l = 0; l < lines(); l++) {
            if (colours.get(l) == null) {
                bare++;
                easy += (free(l) & (1 << degree()) - 1) != 0 ? 1 : 0;
            }
        }
        TreeSet<Integer> used = new TreeSet<>();
        TreeSet<Integer> numbers = new TreeSet<>();
        for (int c = 0; c <= degree(); c++) {
            if (howMany(c) > 0) {
                used.add(c);
                numbers.add(howMany(c));
            }
        }
        switch (what) {
            case 0: return n;
            case 1: return lines();
            case 2: return degree();
            case 3: return bare;
            case 4: return used.size();
            case 5: return numbers.isEmpty() ? 0 : numbers.last() - numbers.first();
            case 6: return kept == null ? 0 : 1;
            case 7: return easy;
            default: return -1;
        }
    }
}
