import java.lang.management.ManagementFactory;

/** All calls of a run share one room: an object is made with all its rows, and its calls make nothing. */
public final class RoomTest {
    private static final int OBJECTS = 200;
    private static final long MOST_BYTES_AN_OBJECT = 8_000;
    private static final long MOST_BYTES_OF_ALL_CALLS = 100_000;

    public static void main(String[] args) {
        Check check = new Check();
        useAll(new LineColours(), 6);
        long before = allocated();
        LineColours[] all = new LineColours[OBJECTS];
        for (int i = 0; i < OBJECTS; i++) {
            all[i] = new LineColours();
        }
        long made = allocated() - before;
        check.due("bytes an object: " + made / OBJECTS, made <= OBJECTS * MOST_BYTES_AN_OBJECT, true);
        before = allocated();
        for (int i = 0; i < OBJECTS; i++) {
            useAll(all[i], 4 + i % 17);
        }
        made = allocated() - before;
        check.due("bytes of all calls: " + made, made <= MOST_BYTES_OF_ALL_CALLS, true);
        check.end();
    }

    private static long allocated() {
        return ((com.sun.management.ThreadMXBean) ManagementFactory.getThreadMXBean())
                .getThreadAllocatedBytes(Thread.currentThread().getId());
    }

    private static void useAll(LineColours x, int lines) {
        x.begin(9);
        for (int a = 0; a < 9; a++) {
            for (int b = a + 1; b < 9 && x.count(1) < lines; b += 2) {
                x.line(a, b);
            }
        }
        x.paint(0, 0);
        x.grow(1);
        x.growAll();
        x.keep();
        x.turn(0, 0, 1);
        x.swap(0, 1);
        x.even();
        x.pair();
        x.take(x.index());
        for (int k = -1; k <= 10; k++) {
            x.first(k, 0);
            x.refused(k, 0);
            x.kinds(k);
            x.turns(k);
            x.ways(k);
            x.sets(k);
            x.count(k);
            x.grown(k);
            x.unlike(k);
            x.overfull(k);
            x.longest(k);
            x.calmer(k);
            x.sides(k);
            x.apart(k);
            x.idle(k);
            x.of(0, k);
            x.post(0, k);
            x.colour(0, k);
            x.chain(0, 0, 1, k);
            x.fan(0, 0, k);
        }
        x.bare(0);
        x.fan(0, 0, -1);
        x.list(0, 7);
        x.listed(0);
        x.free(0);
        x.clash(0, 0);
        x.critical();
        x.chains(0, 1);
        x.back();
    }
}
