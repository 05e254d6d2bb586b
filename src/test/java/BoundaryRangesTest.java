/** The smallest and the largest value of each argument of each method, and what lies just beyond them. */
public final class BoundaryRangesTest {
    private static final Check CHECK = new Check();
    private static final int NONE = LeastPatterns.NONE;
    private static final int STATE = LeastPatterns.STATE;
    private static final String RANGE = "BAD if an argument is out of range";

    private interface Of {
        int call(LeastPatterns x, int v);
    }

    public static void main(String[] args) {
        texts();
        registersAndSettings();
        properties();
        join();
        joinAll();
        origin();
        matching();
        filled();
        isLeast();
        learn();
        apply();
        told();
        CHECK.end();
    }

    /** Register r holds a term of r + 1 nodes, each but the last with one argument. */
    private static LeastPatterns chains() {
        LeastPatterns x = new LeastPatterns();
        for (int r = 0; r < 8; r++) {
            Check.putText(x, r, Check.times("a(", r) + "b" + Check.times(")", r));
        }
        return x;
    }

    /** A rule in 0 and 1, a pattern with the holes 0 and 9 in 2, and terms. */
    private static LeastPatterns patterns() {
        return Check.with("a(0,9*)", "c(9*,0)", "a(0,9*)", "m", "a(b)", "0", "a(b,c,d)", "a(b,d)");
    }

    private static void range(String name, Check.Make make, int least, int dueLeast, int most, int dueMost, Of of) {
        CHECK.due(name + " " + least, of.call(make.object(), least), dueLeast);
        CHECK.due(name + " " + most, of.call(make.object(), most), dueMost);
        int[] beyond = {least - 1, most + 1, Integer.MIN_VALUE, Integer.MAX_VALUE};
        for (int v : beyond) {
            CHECK.refused(name + " " + v, make, x -> of.call(x, v), LeastPatterns.BAD);
        }
    }

    /** An argument that is a register, in an object that holds chains. */
    private static void register(String name, int dueLeast, int dueMost, Of of) {
        range(name, BoundaryRangesTest::chains, 0, dueLeast, 7, dueMost, of);
    }

    private static void texts() {
        CHECK.sentence("Promise 2: type", "the byte, 33 to 126; BAD if c is out of range");
        range("type", BoundaryRangesTest::chains, 33, 23, 126, 23, LeastPatterns::type);
        for (int c = 33; c <= 126; c++) {
            CHECK.due("type(" + c + ")", new LeastPatterns().type(c), 1);
        }
        CHECK.sentence("Promise 4: put", "the register, 0 to 7; BAD if r is out of range");
        register("put", 8, 8, LeastPatterns::put);
    }

    private static void registersAndSettings() {
        CHECK.sentence("Promise 6: empty", "the register, 0 to 7; BAD if r is out of range");
        register("empty", 1, 8, LeastPatterns::empty);
        CHECK.sentence("Promise 7: set", "the setting, 0 to 3; BAD if an argument is out of range");
        range("set of", BoundaryRangesTest::chains, 0, 0, 3, 0, (x, v) -> x.set(v, 1));
        CHECK.sentence("Promise 7: set", "Setting 0 (0 or 1)");
        range("set(0) to", BoundaryRangesTest::chains, 0, 0, 1, 0, (x, v) -> x.set(0, v));
        CHECK.sentence("Promise 7: set", "setting 1 (0 or 1)");
        range("set(1) to", BoundaryRangesTest::chains, 0, 0, 1, 0, (x, v) -> x.set(1, v));
        CHECK.sentence("Promise 7: set", "Settings 2 and 3 are bit masks from 0 to 8191");
        range("set(2) to", BoundaryRangesTest::chains, 0, 0, 8191, 0, (x, v) -> x.set(2, v));
        range("set(3) to", BoundaryRangesTest::chains, 0, 0, 8191, 0, (x, v) -> x.set(3, v));
    }

    private static void properties() {
        CHECK.sentence("Promise 8: node", "BAD if r, i (below 0) or what is out of range; NONE if not so many nodes");
        register("node of", 1, 8, (x, v) -> x.node(v, 0, 4));
        range("node, what", BoundaryRangesTest::chains, 0, 0, 4, 2, (x, v) -> x.node(7, 6, v));
        for (int what = 0; what <= 4; what++) {
            int property = what;
            CHECK.refused("i -1", BoundaryRangesTest::chains, x -> x.node(7, -1, property), LeastPatterns.BAD);
            CHECK.refused("i least", BoundaryRangesTest::chains, x -> x.node(7, Integer.MIN_VALUE, property),
                    LeastPatterns.BAD);
            for (int r = 0; r < 8; r++) {
                CHECK.due("the last node of " + r, chains().node(r, r, what) == NONE ? 1 : 0, 0);
                CHECK.due("one more node of " + r, chains().node(r, r + 1, what), NONE);
                CHECK.due("the greatest index of " + r, chains().node(r, Integer.MAX_VALUE, what), NONE);
            }
        }
        CHECK.due("the depth of the first node", chains().node(7, 0, 3), 0);
        CHECK.due("the depth of the last node", chains().node(7, 7, 3), 7);
        CHECK.sentence("Promise 9: size", "BAD if r or what is out of range");
        register("size of", 1, 8, (x, v) -> x.size(v, 0));
        range("size, what", BoundaryRangesTest::patterns, 0, 3, 4, 9, (x, v) -> x.size(0, v));
    }

    private static void join() {
        CHECK.sentence("Promise 10: join", RANGE);
        register("join, a", 1, 8, (x, v) -> x.join(v, 7, 2));
        register("join, b", 1, 8, (x, v) -> x.join(7, v, 2));
        register("join, to", 7, 7, (x, v) -> x.join(6, 7, v));
    }

    private static void joinAll() {
        CHECK.sentence("Promise 11: joinAll", "the set of the registers, as a bit mask, 0 to 255; " + RANGE);
        range("joinAll, set", BoundaryRangesTest::chains, 0, STATE, 255, 1, (x, v) -> x.joinAll(v, 2));
        register("joinAll, to", 7, 7, (x, v) -> x.joinAll(192, v));
        CHECK.sentence("Promise 11: joinAll", "STATE, also if there are fewer than two registers in the set");
        CHECK.refused("of none", BoundaryRangesTest::chains, x -> x.joinAll(0, 0), STATE);
        for (int r = 0; r < 8; r++) {
            int one = 1 << r;
            CHECK.refused("of " + r, BoundaryRangesTest::chains, x -> x.joinAll(one, 0), STATE);
            int two = one | 1 << (r + 7) % 8;
            CHECK.due("of two", chains().joinAll(two, 0), r == 0 ? 1 : r);
        }
    }

    private static void origin() {
        CHECK.sentence("Promise 12: origin", RANGE);
        register("origin, a", 1, 7, (x, v) -> x.origin(v, 1, 0, 1));
        register("origin, b", 1, 7, (x, v) -> x.origin(1, v, 0, 3));
        range("origin, hole", BoundaryRangesTest::chains, 0, 7, 9, NONE, (x, v) -> x.origin(7, 1, v, 1));
        range("origin, what", BoundaryRangesTest::chains, 0, 1, 3, 7, (x, v) -> x.origin(1, 7, 0, v));
    }

    private static void matching() {
        CHECK.sentence("Promise 13: covers", RANGE);
        register("covers, p", 0, 1, (x, v) -> x.covers(v, 7));
        register("covers, t", 0, 1, (x, v) -> x.covers(7, v));
        CHECK.sentence("Promise 15: compare", RANGE);
        register("compare, p", 3, 0, (x, v) -> x.compare(v, 7));
        register("compare, q", 3, 0, (x, v) -> x.compare(7, v));
        CHECK.sentence("Promise 16: covered", "BAD if p is out of range");
        register("covered", 1, 128, LeastPatterns::covered);
    }

    private static void filled() {
        CHECK.sentence("Promise 14: filled", RANGE);
        range("filled, p", BoundaryRangesTest::patterns, 0, 2, 7, NONE, (x, v) -> x.filled(v, 6, 9, 1));
        range("filled, t", BoundaryRangesTest::patterns, 0, 1, 7, 1, (x, v) -> x.filled(2, v, 9, 1));
        range("filled, hole", BoundaryRangesTest::patterns, 0, 1, 9, 2, (x, v) -> x.filled(0, 6, v, 0));
        range("filled, what", BoundaryRangesTest::patterns, 0, 2, 2, 2, (x, v) -> x.filled(0, 6, 9, v));
    }

    private static void isLeast() {
        CHECK.sentence("Promise 17: isLeast", RANGE);
        register("isLeast, p", 0, 1, (x, v) -> x.isLeast(v, 7, 7));
        register("isLeast, a", 0, 1, (x, v) -> x.isLeast(7, v, 7));
        register("isLeast, b", 0, 1, (x, v) -> x.isLeast(7, 7, v));
    }

    private static void learn() {
        CHECK.sentence("Promise 18: learn", RANGE);
        register("learn, before", 1, 0, (x, v) -> x.learn(v, 0, 7, 7, 4, 5));
        register("learn, after", 0, 1, (x, v) -> x.learn(7, v, 7, 7, 4, 5));
        register("learn, b", 1, 0, (x, v) -> x.learn(7, 7, v, 0, 4, 5));
        register("learn, c", 0, 1, (x, v) -> x.learn(7, 7, 7, v, 4, 5));
        register("learn, left", 1, 1, (x, v) -> x.learn(1, 1, 2, 2, v, 5));
        register("learn, right", 1, 1, (x, v) -> x.learn(1, 1, 2, 2, 4, v));
        CHECK.sentence("Promise 18: learn", "BAD if left and right are the same");
        for (int r = 0; r < 8; r++) {
            int same = r;
            CHECK.refused("both " + r, BoundaryRangesTest::chains, x -> x.learn(1, 1, 2, 2, same, same),
                    LeastPatterns.BAD);
        }
    }

    private static void apply() {
        CHECK.sentence("Promise 19: apply", RANGE);
        range("apply, left", BoundaryRangesTest::patterns, 0, 4, 7, STATE, (x, v) -> x.apply(v, 1, 6, 3));
        range("apply, right", BoundaryRangesTest::patterns, 0, 4, 7, 3, (x, v) -> x.apply(0, v, 6, 3));
        range("apply, t", BoundaryRangesTest::patterns, 0, 3, 7, 3, (x, v) -> x.apply(0, 1, v, 3));
        range("apply, to", BoundaryRangesTest::patterns, 0, 4, 7, 4, (x, v) -> x.apply(0, 1, 6, v));
    }

    private static void told() {
        CHECK.sentence("Promise 20: told", "BAD if what is not 0 to 7");
        range("told", BoundaryRangesTest::chains, 0, 0, 7, 6, LeastPatterns::told);
    }
}
