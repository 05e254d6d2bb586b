import java.lang.management.ManagementFactory;

/**
 * How much memory a run of 512 dear calls takes, the objects of the library included. The room is
 * some 600,000 objects and 7.3 million fields and elements; all runs stay far below it.
 */
public final class RoomTest {
    private static final int CALLS = 512;
    private static final long MOST_BYTES = 6_000_000;
    private static final String WHOLE = "a(b(c,c,c,c,c,c,c),b(c,c,c,c,c,c,c),b(c,c,c,c,c,c,c),b(c,c,c,c,c,c))";

    private interface Run {
        void call(LeastPatterns x, int k);
    }

    private static final Check CHECK = new Check();

    private static void run(String name, Run run) {
        com.sun.management.ThreadMXBean threads =
                (com.sun.management.ThreadMXBean) ManagementFactory.getThreadMXBean();
        long thread = Thread.currentThread().getId();
        LeastPatterns first = object();
        run.call(first, 0);
        LeastPatterns x = object();
        long before = threads.getThreadAllocatedBytes(thread);
        for (int k = 0; k < CALLS; k++) {
            run.call(x, k);
        }
        long bytes = threads.getThreadAllocatedBytes(thread) - before;
        System.out.println(name + ": " + bytes + " bytes");
        CHECK.due(name + " takes too much", bytes <= MOST_BYTES ? 0 : bytes, 0);
    }

    private static LeastPatterns object() {
        LeastPatterns x = new LeastPatterns();
        x.set(0, 1);
        x.set(1, 1);
        x.set(3, 8191);
        for (int r = 0; r < 8; r++) {
            Check.putText(x, r, WHOLE);
        }
        return x;
    }

    public static void main(String[] args) {
        run("put", (x, k) -> x.put(k % 8));
        run("join", (x, k) -> x.join(k % 8, 0, 1));
        run("joinAll", (x, k) -> x.joinAll(255, k % 8));
        run("learn", (x, k) -> x.learn(0, 1, 2, 3, k % 7, 7));
        run("origin", (x, k) -> x.origin(k % 8, 1, 0, 0));
        run("apply", (x, k) -> x.apply(0, 1, 2, k % 8));
        run("isLeast", (x, k) -> x.isLeast(0, 1, 2));
        run("covered", (x, k) -> x.covered(k % 8));
        run("digest", (x, k) -> x.digest());
        run("undo", (x, k) -> x.undo());
        run("a new object", (x, k) -> new LeastPatterns());
        CHECK.end();
    }
}
