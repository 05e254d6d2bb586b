/** Promise 21: undo, with the history. */
public final class Promise21UndoTest {
    private static final Check CHECK = new Check();

    public static void main(String[] args) {
        everyKind();
        atMostSix();
        whatStays();
        noCallThatFails();
        CHECK.end();
    }

    private static void everyKind() {
        LeastPatterns x = Check.with("a(b)", "a(c)");
        CHECK.due("set", x.set(1, 1), 0);
        CHECK.due("join", x.join(0, 1, 2), 2);
        CHECK.due("joinAll", x.joinAll(3, 3), 2);
        CHECK.due("learn", x.learn(0, 1, 1, 0, 4, 5), 0);
        CHECK.due("states", x.told(7), 6);
        CHECK.due("apply", x.apply(2, 2, 0, 6), 2);
        CHECK.due("empty", x.empty(0), 2);
        CHECK.due("states", x.told(7), 6);
        CHECK.due("registers", Check.showAll(x), "- a(c) a(0) a(0) a(0) a(1) a(b) -");
        CHECK.due("undo", x.undo(), 5);
        CHECK.due("registers", Check.showAll(x), "a(b) a(c) a(0) a(0) a(0) a(1) a(b) -");
        CHECK.due("undo", x.undo(), 4);
        CHECK.due("registers", Check.showAll(x), "a(b) a(c) a(0) a(0) a(0) a(1) - -");
        CHECK.due("undo", x.undo(), 3);
        CHECK.due("registers", Check.showAll(x), "a(b) a(c) a(0) a(0) - - - -");
        CHECK.due("undo", x.undo(), 2);
        CHECK.due("registers", Check.showAll(x), "a(b) a(c) a(0) - - - - -");
        CHECK.due("undo", x.undo(), 1);
        CHECK.due("registers", Check.showAll(x), "a(b) a(c) - - - - - -");
        CHECK.due("setting", x.told(1), 1);
        CHECK.due("undo", x.undo(), 0);
        CHECK.due("setting", x.told(1), 0);
        CHECK.due("undo", x.undo(), LeastPatterns.STATE);
        CHECK.due("registers", Check.showAll(x), "a(b) a(c) - - - - - -");
    }

    private static void atMostSix() {
        LeastPatterns x = new LeastPatterns();
        for (int v = 1; v <= 20; v++) {
            x.set(2, v);
            CHECK.due("states", x.told(7), Math.min(v, 6));
        }
        for (int left = 5; left >= 0; left--) {
            CHECK.due("undo", x.undo(), left);
            CHECK.due("setting", x.told(2), 14 + left);
        }
        CHECK.due("undo", x.undo(), LeastPatterns.STATE);
        CHECK.due("setting", x.told(2), 14);
        // what is undone is not remembered any more
        x.set(2, 100);
        x.set(2, 200);
        CHECK.due("undo", x.undo(), 1);
        x.set(2, 300);
        CHECK.due("undo", x.undo(), 1);
        CHECK.due("setting", x.told(2), 100);
        CHECK.due("undo", x.undo(), 0);
        CHECK.due("setting", x.told(2), 14);
    }

    private static void whatStays() {
        LeastPatterns x = Check.with("a", "b");
        CHECK.due("fault", Check.putText(x, 2, "a("), -12);
        CHECK.due("undo", x.undo(), 1);
        CHECK.due("bytes", x.told(6), 2);
        CHECK.due("fault", x.fault(), 1);
        CHECK.due("type", x.type('m'), 3);
        CHECK.due("registers", Check.showAll(x), "a - - - - - - -");
        CHECK.due("undo", x.undo(), 0);
        x.type(')');
        CHECK.due("put", x.put(4), 2);
        CHECK.due("fault", x.fault(), LeastPatterns.NONE);
        CHECK.due("undo", x.undo(), 0);
        CHECK.due("fault", x.fault(), LeastPatterns.NONE);
    }

    /** No other call and none that fails records a state. */
    private static void noCallThatFails() {
        LeastPatterns x = Check.with("a", "b(c)");
        x.type('(');
        x.put(0);
        x.clear();
        x.fault();
        x.empty(5);
        x.empty(8);
        x.set(0, 2);
        x.node(0, 0, 0);
        x.size(0, 0);
        x.join(0, 5, 2);
        x.joinAll(1, 2);
        x.origin(0, 1, 0, 0);
        x.covers(0, 1);
        x.filled(0, 1, 0, 0);
        x.compare(0, 1);
        x.covered(0);
        x.isLeast(0, 0, 0);
        x.learn(0, 1, 0, 1, 2, 2);
        x.apply(0, 1, 1, 2);
        x.told(0);
        x.digest();
        CHECK.due("states", x.told(7), 2);
        CHECK.due("registers", Check.showAll(x), "a b(c) - - - - - -");
    }
}
