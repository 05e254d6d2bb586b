/** HISTORY: nothing to take back, six states, and one state more. */
public final class BoundaryHistoryTest {
    private static final Check CHECK = new Check();
    private static final int STATE = LeastPatterns.STATE;

    /** A call that is successful in the object of base(). */
    private static final Check.Call[] RECORDING = {
        x -> x.put(5), x -> x.empty(0), x -> x.set(1, 1), x -> x.set(0, 0), x -> x.join(0, 1, 5), x -> x.joinAll(3, 5),
        x -> x.learn(0, 1, 1, 0, 5, 6), x -> x.apply(2, 2, 0, 5)};
    private static final String[] NAMES = {"put", "empty", "set", "set to the same", "join", "joinAll", "learn", "apply"};

    /** Calls that are successful, or refused, and record nothing. */
    private static final Check.Call[] OTHERS = {
        x -> x.node(0, 0, 0), x -> x.size(0, 0), x -> x.origin(0, 1, 0, 0), x -> x.covers(2, 0), x -> x.filled(2, 0, 0, 0),
        x -> x.compare(0, 2), x -> x.covered(2), x -> x.isLeast(2, 0, 1), x -> x.told(7), LeastPatterns::fault,
        x -> (int) x.digest(), x -> x.put(8), x -> x.empty(7), x -> x.empty(-1), x -> x.set(0, 2), x -> x.join(0, 7, 1),
        x -> x.join(0, 1, 8), x -> x.joinAll(1, 0), x -> x.joinAll(256, 0), x -> x.learn(0, 1, 1, 0, 5, 5),
        x -> x.learn(0, 7, 1, 0, 5, 6), x -> x.apply(0, 2, 1, 5), x -> x.apply(0, 2, 1, 8)};

    public static void main(String[] args) {
        nothing();
        eachRecords();
        othersRecordNothing();
        sixStates();
        oneMore();
        latest();
        notTheText();
        undoOfAll();
        CHECK.end();
    }

    /** Three terms in registers, and three states remembered. */
    private static LeastPatterns base() {
        return Check.with("a(b)", "a(c)", "a(0)");
    }

    private static void nothing() {
        CHECK.sentence("Promise 21: undo", "STATE if there is none");
        LeastPatterns x = new LeastPatterns();
        CHECK.due("of a new object", x.undo(), STATE);
        CHECK.due("again", x.undo(), STATE);
        CHECK.due("one state", x.set(2, 7), 0);
        CHECK.due("remembered", x.told(7), 1);
        CHECK.due("how many states are still remembered", x.undo(), 0);
        CHECK.due("remembered", x.told(7), 0);
        CHECK.due("setting", x.told(2), 0);
        CHECK.due("nothing is left", x.undo(), STATE);
        CHECK.due("nothing is left", x.undo(), STATE);
        CHECK.due("the setting stays", x.told(2), 0);
        CHECK.refused("undo", LeastPatterns::new, LeastPatterns::undo, STATE);
    }

    private static void eachRecords() {
        CHECK.sentence("Promise 21: undo",
                "Each successful call of put(), empty(), set(), join(), joinAll(), learn() and apply() records the state before it");
        for (int k = 0; k < RECORDING.length; k++) {
            LeastPatterns x = base();
            String before = Check.showAll(x) + x.told(0) + x.told(1) + x.told(2) + x.told(3);
            CHECK.due(NAMES[k] + " is successful", RECORDING[k].on(x) < 0 ? 1 : 0, 0);
            CHECK.due(NAMES[k] + " records one state", x.told(7), 4);
            CHECK.due("undo of " + NAMES[k], x.undo(), 3);
            CHECK.due("the state before " + NAMES[k],
                    Check.showAll(x) + x.told(0) + x.told(1) + x.told(2) + x.told(3), before);
            CHECK.same("behind the undo of " + NAMES[k], x, base());
        }
    }

    private static void othersRecordNothing() {
        CHECK.sentence("Promise 21: undo", "Each successful call of put(), ... records: others and refused ones do not");
        for (int k = 0; k < OTHERS.length; k++) {
            LeastPatterns x = base();
            OTHERS[k].on(x);
            CHECK.due("states behind call " + k, x.told(7), 3);
            CHECK.same("behind call " + k, x, base());
        }
        LeastPatterns y = base();
        y.type('(');
        CHECK.due("put with a fault", y.put(5), -14);
        CHECK.due("states", y.told(7), 3);
        y.clear();
        CHECK.due("states", y.told(7), 3);
    }

    private static void sixStates() {
        CHECK.sentence("Promise 21: undo", "At most 6 recorded states are remembered");
        LeastPatterns x = new LeastPatterns();
        for (int v = 1; v <= 6; v++) {
            x.set(2, v);
            CHECK.due("remembered", x.told(7), v);
        }
        for (int v = 5; v >= 0; v--) {
            CHECK.due("undo", x.undo(), v);
            CHECK.due("setting", x.told(2), v);
            CHECK.due("remembered", x.told(7), v);
        }
        CHECK.due("one undo more", x.undo(), STATE);
        CHECK.due("setting", x.told(2), 0);
    }

    private static void oneMore() {
        CHECK.sentence("Promise 21: undo", "when one more is recorded, the oldest one is dropped");
        for (int more = 1; more <= 14; more++) {
            LeastPatterns x = new LeastPatterns();
            for (int v = 1; v <= 6 + more; v++) {
                x.set(2, v);
                CHECK.due("remembered", x.told(7), Math.min(v, 6));
            }
            for (int left = 5; left >= 0; left--) {
                CHECK.due("undo", x.undo(), left);
                CHECK.due("setting", x.told(2), more + left);
            }
            CHECK.due("the oldest one is not there", x.undo(), STATE);
            CHECK.due("setting", x.told(2), more);
        }
        for (int k = 0; k < RECORDING.length; k++) {
            LeastPatterns x = base();
            for (int n = 0; n < 3; n++) {
                x.set(2, n);
            }
            CHECK.due("remembered", x.told(7), 6);
            RECORDING[k].on(x);
            CHECK.due("remembered behind " + NAMES[k], x.told(7), 6);
            for (int left = 5; left >= 0; left--) {
                CHECK.due("undo", x.undo(), left);
            }
            CHECK.due("one undo more", x.undo(), STATE);
            CHECK.due("the first put's state is dropped", Check.showAll(x), "a(b) - - - - - - -");
        }
        CHECK.sentence("Promise 21: undo", "a refused call drops no state of six");
        for (int k = 0; k < OTHERS.length; k++) {
            LeastPatterns x = base();
            x.set(2, 1);
            x.set(2, 2);
            x.set(2, 3);
            OTHERS[k].on(x);
            for (int left = 5; left >= 0; left--) {
                CHECK.due("undo", x.undo(), left);
            }
            CHECK.due("all six were there", Check.showAll(x), "- - - - - - - -");
        }
    }

    private static void latest() {
        CHECK.sentence("Promise 21: undo", "undo() restores the latest one and removes it");
        LeastPatterns x = new LeastPatterns();
        for (int v = 1; v <= 9; v++) {
            x.set(2, v);
        }
        CHECK.due("undo", x.undo(), 5);
        CHECK.due("undo", x.undo(), 4);
        CHECK.due("setting", x.told(2), 7);
        CHECK.due("undo is not recorded: set", x.set(2, 100), 7);
        CHECK.due("remembered", x.told(7), 5);
        CHECK.due("undo", x.undo(), 4);
        CHECK.due("setting", x.told(2), 7);
        CHECK.due("undo", x.undo(), 3);
        CHECK.due("setting", x.told(2), 6);
        for (int v = 200; v < 203; v++) {
            x.set(2, v);
        }
        CHECK.due("six again", x.told(7), 6);
        x.set(2, 300);
        CHECK.due("and no more", x.told(7), 6);
        int[] due = {202, 201, 200, 6, 5, 4};
        for (int k = 0; k < 6; k++) {
            CHECK.due("undo", x.undo(), 5 - k);
            CHECK.due("setting", x.told(2), due[k]);
        }
        CHECK.due("one undo more", x.undo(), STATE);
    }

    private static void notTheText() {
        CHECK.sentence("Promise 21: undo", "The text buffer and what fault() tells stay");
        LeastPatterns x = base();
        for (int c : new int[] {'(', 'b', ')', ')'}) {
            x.type(c);
        }
        CHECK.due("put", x.put(3), -14);
        CHECK.due("undo", x.undo(), 2);
        CHECK.due("bytes", x.told(6), 8);
        CHECK.due("fault", x.fault(), 1);
        x.clear();
        x.type('m');
        CHECK.due("put", x.put(3), 1);
        CHECK.due("undo", x.undo(), 2);
        CHECK.due("bytes", x.told(6), 1);
        CHECK.due("fault", x.fault(), LeastPatterns.NONE);
        CHECK.due("put again", x.put(4), 1);
        CHECK.due("registers", Check.showAll(x), "a(b) a(c) - - m - - -");
    }

    private static void undoOfAll() {
        CHECK.sentence("Promise 21: undo", "Returns to the latest remembered state: registers and settings");
        LeastPatterns x = base();
        x.set(0, 1);
        x.set(1, 1);
        x.set(2, 8191);
        x.set(3, 8191);
        x.set(3, 1);
        x.empty(1);
        CHECK.due("registers", Check.showAll(x), "a(b) - a(0) - - - - -");
        int[][] settings = {{1, 1, 8191, 1}, {1, 1, 8191, 8191}, {1, 1, 8191, 0}, {1, 1, 0, 0}, {1, 0, 0, 0}, {0, 0, 0, 0}};
        for (int k = 0; k < 6; k++) {
            CHECK.due("undo", x.undo(), 5 - k);
            CHECK.due("registers", Check.showAll(x), "a(b) a(c) a(0) - - - - -");
            for (int what = 0; what <= 3; what++) {
                CHECK.due("told(" + what + ")", x.told(what), settings[k][what]);
            }
        }
        // a register that is written anew leaves what is remembered as it was
        LeastPatterns y = base();
        y.join(0, 1, 0);
        y.join(0, 1, 1);
        y.apply(0, 1, 2, 2);
        y.learn(0, 1, 2, 0, 1, 0);
        Check.putText(y, 0, "m");
        y.empty(2);
        String[] due = {"m a(0) a(0) - - - - -", "a(0) a(0) a(0) - - - - -", "a(0) a(0) a(0) - - - - -",
            "a(0) a(0) a(0) - - - - -", "a(0) a(c) a(0) - - - - -", "a(b) a(c) a(0) - - - - -"};
        for (int k = 0; k < 6; k++) {
            CHECK.due("undo", y.undo(), 5 - k);
            CHECK.due("registers", Check.showAll(y), due[k]);
        }
    }
}
