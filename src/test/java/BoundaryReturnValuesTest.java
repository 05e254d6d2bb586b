/** RETURN VALUES: the order BAD, STATE, FULL, what a refused call changes, and when NONE is returned. */
public final class BoundaryReturnValuesTest {
    private static final Check CHECK = new Check();
    private static final int BAD = LeastPatterns.BAD;
    private static final int STATE = LeastPatterns.STATE;
    private static final int FULL = LeastPatterns.FULL;
    private static final int NONE = LeastPatterns.NONE;
    private static final String BAD_FIRST = "If several of them apply, the first one in this order is returned: BAD before STATE";

    public static void main(String[] args) {
        constants();
        badBeforeState();
        badBeforeFull();
        stateBeforeFull();
        stateChangesNothing();
        fullChangesNothing();
        faultsChangeNothing();
        noneIsNoError();
        CHECK.end();
    }

    /** Registers 0 and 1 need eleven holes, 2 and 3 are a rule whose new term is too large; 5 to 7 are empty. */
    private static LeastPatterns large() {
        LeastPatterns x = Check.with("a(b(a,b,c,d,e,f),b(g,h,i,j,k))", "a(b(b,c,d,e,f,g),b(h,i,j,k,l))",
                "a(0)", "c(0,0,0,0)", "a(b(c,d,e(f),g,h,i,j,k))");
        x.set(1, 1);
        x.undo();
        return x;
    }

    private static LeastPatterns empty() {
        LeastPatterns x = Check.with("", "a(0)", "a(b)");
        x.set(3, 5);
        Check.typeText(x, "a(a(");
        x.put(4);
        return x;
    }

    private static void of(String name, int want, Check.Call call) {
        CHECK.refused(name, BoundaryReturnValuesTest::empty, call, want);
    }

    private static void ofLarge(String name, int want, Check.Call call) {
        CHECK.refused(name, BoundaryReturnValuesTest::large, call, want);
    }

    private static void constants() {
        CHECK.sentence("Promise 1: a new object", "BAD (-1), STATE (-2), FULL (-3), NONE (-9)");
        CHECK.due("BAD", LeastPatterns.BAD, -1);
        CHECK.due("STATE", LeastPatterns.STATE, -2);
        CHECK.due("FULL", LeastPatterns.FULL, -3);
        CHECK.due("NONE", LeastPatterns.NONE, -9);
    }

    private static void badBeforeState() {
        CHECK.sentence("Promise 8: node", BAD_FIRST);
        of("node, i", BAD, x -> x.node(0, -1, 0));
        of("node, what", BAD, x -> x.node(0, 0, 5));
        of("node, what", BAD, x -> x.node(0, 0, -1));
        CHECK.sentence("Promise 9: size", BAD_FIRST);
        of("size", BAD, x -> x.size(0, 5));
        of("size", BAD, x -> x.size(0, -1));
        CHECK.sentence("Promise 10: join", BAD_FIRST);
        of("join", BAD, x -> x.join(0, 8, 1));
        of("join", BAD, x -> x.join(8, 0, 1));
        of("join", BAD, x -> x.join(0, 0, 8));
        of("join", BAD, x -> x.join(0, 0, -1));
        CHECK.sentence("Promise 11: joinAll", BAD_FIRST);
        of("joinAll", BAD, x -> x.joinAll(0, 8));
        of("joinAll", BAD, x -> x.joinAll(2, -1));
        of("joinAll", BAD, x -> x.joinAll(256, 0));
        of("joinAll", BAD, x -> x.joinAll(-1, 0));
        CHECK.sentence("Promise 12: origin", BAD_FIRST);
        of("origin", BAD, x -> x.origin(0, 1, 10, 0));
        of("origin", BAD, x -> x.origin(0, 1, -1, 0));
        of("origin", BAD, x -> x.origin(1, 0, 0, 4));
        of("origin", BAD, x -> x.origin(1, 0, 0, -1));
        of("origin", BAD, x -> x.origin(0, 8, 0, 0));
        of("origin", BAD, x -> x.origin(8, 0, 0, 0));
        CHECK.sentence("Promise 13: covers", BAD_FIRST);
        of("covers", BAD, x -> x.covers(0, 8));
        of("covers", BAD, x -> x.covers(8, 0));
        CHECK.sentence("Promise 14: filled", BAD_FIRST);
        of("filled", BAD, x -> x.filled(0, 1, 10, 0));
        of("filled", BAD, x -> x.filled(1, 0, -1, 0));
        of("filled", BAD, x -> x.filled(1, 0, 0, 3));
        of("filled", BAD, x -> x.filled(0, 1, 0, -1));
        of("filled", BAD, x -> x.filled(0, 8, 0, 0));
        of("filled", BAD, x -> x.filled(8, 0, 0, 0));
        CHECK.sentence("Promise 15: compare", BAD_FIRST);
        of("compare", BAD, x -> x.compare(0, 8));
        of("compare", BAD, x -> x.compare(8, 0));
        CHECK.sentence("Promise 17: isLeast", BAD_FIRST);
        of("isLeast", BAD, x -> x.isLeast(0, 0, 8));
        of("isLeast", BAD, x -> x.isLeast(0, 8, 0));
        of("isLeast", BAD, x -> x.isLeast(8, 0, 0));
        CHECK.sentence("Promise 18: learn", BAD_FIRST);
        of("learn", BAD, x -> x.learn(0, 1, 2, 1, 3, 8));
        of("learn", BAD, x -> x.learn(1, 0, 2, 1, 8, 3));
        of("learn", BAD, x -> x.learn(1, 2, 0, 1, 3, 3));
        of("learn", BAD, x -> x.learn(8, 2, 1, 0, 3, 4));
        of("learn", BAD, x -> x.learn(0, 8, 1, 1, 3, 4));
        of("learn", BAD, x -> x.learn(0, 1, 8, 1, 3, 4));
        of("learn", BAD, x -> x.learn(0, 1, 1, 8, 3, 4));
        CHECK.sentence("Promise 19: apply", BAD_FIRST);
        of("apply", BAD, x -> x.apply(0, 1, 2, 8));
        of("apply", BAD, x -> x.apply(1, 0, 2, -1));
        of("apply", BAD, x -> x.apply(0, 1, 8, 1));
        of("apply", BAD, x -> x.apply(0, 8, 1, 1));
        of("apply", BAD, x -> x.apply(8, 0, 1, 1));
        of("apply of what is not covered", BAD, x -> x.apply(2, 1, 1, 8));
    }

    private static void badBeforeFull() {
        CHECK.sentence("Promise 2: type", "BAD before FULL");
        LeastPatterns x = new LeastPatterns();
        for (int n = 0; n < 80; n++) {
            x.type('a');
        }
        CHECK.due("type(32)", x.type(32), BAD);
        CHECK.due("type(127)", x.type(127), BAD);
        CHECK.due("type(33)", x.type(33), FULL);
        CHECK.due("type(126)", x.type(126), FULL);
        CHECK.sentence("Promise 10: join", "BAD before FULL");
        ofLarge("join", FULL, y -> y.join(0, 1, 7));
        ofLarge("join", BAD, y -> y.join(0, 1, 8));
        CHECK.sentence("Promise 11: joinAll", "BAD before FULL");
        ofLarge("joinAll", FULL, y -> y.joinAll(3, 7));
        ofLarge("joinAll", BAD, y -> y.joinAll(3, 8));
        CHECK.sentence("Promise 12: origin", "BAD before FULL");
        ofLarge("origin", FULL, y -> y.origin(0, 1, 9, 3));
        ofLarge("origin", BAD, y -> y.origin(0, 1, 10, 3));
        ofLarge("origin", BAD, y -> y.origin(0, 1, 9, 4));
        CHECK.sentence("Promise 18: learn", "BAD before FULL");
        ofLarge("learn", FULL, y -> y.learn(0, 2, 1, 2, 5, 6));
        ofLarge("learn", BAD, y -> y.learn(0, 2, 1, 2, 5, 5));
        ofLarge("learn", BAD, y -> y.learn(0, 2, 1, 2, 5, 8));
        CHECK.sentence("Promise 19: apply", "BAD before FULL");
        ofLarge("apply", FULL, y -> y.apply(2, 3, 4, 7));
        ofLarge("apply", BAD, y -> y.apply(2, 3, 4, 8));
    }

    private static void stateBeforeFull() {
        CHECK.sentence("Promise 11: joinAll", "STATE before FULL");
        ofLarge("with an empty one behind", STATE, x -> x.joinAll(1 | 2 | 128, 6));
        ofLarge("without it", FULL, x -> x.joinAll(1 | 2 | 16, 6));
        CHECK.sentence("Promise 18: learn", "STATE before FULL");
        ofLarge("learn, the terms after are missing", STATE, x -> x.learn(0, 7, 1, 2, 5, 6));
        ofLarge("learn, the terms after are missing", STATE, x -> x.learn(0, 2, 1, 7, 5, 6));
        ofLarge("learn, the terms after are there", FULL, x -> x.learn(0, 2, 1, 2, 5, 6));
        ofLarge("learn, the terms before are missing", STATE, x -> x.learn(7, 0, 2, 1, 5, 6));
        ofLarge("learn, the terms before are there", FULL, x -> x.learn(2, 0, 2, 1, 5, 6));
        CHECK.sentence("Promise 19: apply", "STATE before FULL");
        LeastPatterns y = Check.with("a(0)", "c(0,0,0,0,1)", "a(b(c,d,e(f),g,h,i,j,k))", "c(0,0,0,0,a)");
        CHECK.due("a hole that the left one does not have", y.apply(0, 1, 2, 7), STATE);
        CHECK.due("too large", y.apply(0, 3, 2, 7), FULL);
    }

    private static void stateChangesNothing() {
        String words = "A call that returns an error code changes nothing: STATE of a register that is read is empty";
        CHECK.sentence("Promise 6: empty", words);
        of("empty", STATE, x -> x.empty(0));
        CHECK.sentence("Promises 8 and 9: node and size", words);
        of("node", STATE, x -> x.node(0, 0, 0));
        of("node", STATE, x -> x.node(0, 99, 4));
        of("size", STATE, x -> x.size(0, 4));
        CHECK.sentence("Promises 10 to 12: join, joinAll and origin", words);
        of("join", STATE, x -> x.join(0, 1, 2));
        of("join", STATE, x -> x.join(1, 0, 1));
        of("joinAll", STATE, x -> x.joinAll(3, 2));
        of("joinAll", STATE, x -> x.joinAll(7, 2));
        of("joinAll of one", STATE, x -> x.joinAll(2, 2));
        of("joinAll of none", STATE, x -> x.joinAll(0, 2));
        of("origin", STATE, x -> x.origin(0, 1, 0, 0));
        of("origin", STATE, x -> x.origin(1, 0, 9, 3));
        CHECK.sentence("Promises 13 to 17: covers, filled, compare, covered and isLeast", words);
        of("covers", STATE, x -> x.covers(0, 1));
        of("covers", STATE, x -> x.covers(1, 0));
        of("filled", STATE, x -> x.filled(0, 1, 0, 0));
        of("filled", STATE, x -> x.filled(1, 0, 9, 2));
        of("compare", STATE, x -> x.compare(0, 1));
        of("compare", STATE, x -> x.compare(1, 0));
        of("covered", STATE, x -> x.covered(0));
        of("isLeast", STATE, x -> x.isLeast(0, 1, 1));
        of("isLeast", STATE, x -> x.isLeast(1, 0, 1));
        of("isLeast", STATE, x -> x.isLeast(1, 1, 0));
        of("isLeast of what is not covered", STATE, x -> x.isLeast(2, 1, 0));
        CHECK.sentence("Promises 18 and 19: learn and apply", words);
        of("learn", STATE, x -> x.learn(0, 1, 2, 1, 5, 6));
        of("learn", STATE, x -> x.learn(1, 0, 2, 1, 5, 6));
        of("learn", STATE, x -> x.learn(1, 2, 0, 1, 5, 6));
        of("learn", STATE, x -> x.learn(1, 2, 1, 0, 1, 2));
        of("apply", STATE, x -> x.apply(0, 1, 2, 1));
        of("apply", STATE, x -> x.apply(1, 0, 2, 1));
        of("apply", STATE, x -> x.apply(1, 2, 0, 1));
        of("apply of what is not covered", STATE, x -> x.apply(2, 1, 1, 2));
        CHECK.sentence("Promise 21: undo", "STATE if there is none, and nothing changes");
        CHECK.refused("undo", () -> {
            LeastPatterns x = empty();
            while (x.told(7) > 0) {
                x.undo();
            }
            return x;
        }, LeastPatterns::undo, STATE);
    }

    private static void fullChangesNothing() {
        CHECK.sentence("Promises 10 to 12 and 18: join, joinAll, origin and learn", "FULL (-3), and nothing changes");
        for (int to = 0; to < 8; to++) {
            int r = to;
            ofLarge("join", FULL, x -> x.join(0, 1, r));
            ofLarge("join", FULL, x -> x.join(1, 0, r));
            ofLarge("joinAll", FULL, x -> x.joinAll(3, r));
            ofLarge("joinAll", FULL, x -> x.joinAll(31, r));
            ofLarge("learn, left", FULL, x -> x.learn(0, 2, 1, 3, r, (r + 1) % 8));
            ofLarge("learn, right", FULL, x -> x.learn(2, 0, 4, 1, r, (r + 1) % 8));
        }
        for (int hole = 0; hole <= 9; hole++) {
            int h = hole;
            ofLarge("origin", FULL, x -> x.origin(0, 1, h, h % 4));
        }
        CHECK.sentence("Promise 19: apply", "FULL (-3), and nothing changes");
        for (int to = 0; to < 8; to++) {
            int r = to;
            ofLarge("apply", FULL, x -> x.apply(2, 3, 4, r));
        }
    }

    private static void faultsChangeNothing() {
        CHECK.sentence("Promise 4: put", "A call that returns -10 or less changes nothing (but see put()): only what fault() tells");
        String[] texts = {"", "n", "a(", "a(b,b,b,b,b,b,b,b,b)", "a(a(a(a(a(a(a(a(b))))))))", "a(0,0*)", "b(0*,b(1*))",
            "b(b(a,a,a,a),b(a,a,a,a,a))"};
        int[] kinds = {1, 1, 1, 2, 3, 4, 5, 5};
        int[] positions = {0, 0, 2, 18, 16, 4, 11, 26};
        for (int k = 0; k < texts.length; k++) {
            String text = texts[k];
            for (int r = 0; r < 8; r++) {
                LeastPatterns x = flat(text);
                LeastPatterns before = flat(text);
                CHECK.due("put of " + text, x.put(r), -10 - positions[k]);
                CHECK.due("fault of " + text, x.fault(), kinds[k]);
                CHECK.due("the fault before", before.fault(), LeastPatterns.NONE);
                CHECK.due("registers", Check.showAll(x), Check.showAll(before));
                for (int what = 0; what <= 7; what++) {
                    CHECK.due("told(" + what + ")", x.told(what), before.told(what));
                }
                for (int n = 0; n <= 6; n++) {
                    CHECK.due("undo", x.undo(), before.undo());
                    CHECK.due("registers", Check.showAll(x), Check.showAll(before));
                }
                CHECK.due("fault stays", x.fault(), kinds[k]);
            }
        }
    }

    private static LeastPatterns flat(String text) {
        LeastPatterns x = Check.with("a(b)", "", "c(0)", "m");
        x.set(3, 1);
        x.set(2, 2);
        Check.typeText(x, text);
        return x;
    }

    private static void noneIsNoError() {
        String words = "NONE is returned only if no error code applies";
        CHECK.sentence("Promise 5: fault", words);
        CHECK.due("fault", new LeastPatterns().fault(), NONE);
        CHECK.sentence("Promise 8: node", words);
        of("not so many nodes", NONE, x -> x.node(1, 2, 0));
        of("and what out of range", BAD, x -> x.node(1, 2, 5));
        of("and an empty register", STATE, x -> x.node(0, 2, 0));
        CHECK.sentence("Promise 12: origin", words);
        of("no such hole", NONE, x -> x.origin(1, 2, 1, 0));
        of("and what out of range", BAD, x -> x.origin(1, 2, 1, 4));
        of("and an empty register", STATE, x -> x.origin(1, 0, 1, 0));
        ofLarge("and a join that is not possible", FULL, x -> x.origin(0, 1, 9, 0));
        CHECK.sentence("Promise 14: filled", words);
        of("no such hole", NONE, x -> x.filled(1, 2, 1, 0));
        of("not covered", NONE, x -> x.filled(2, 1, 0, 0));
        of("and what out of range", BAD, x -> x.filled(2, 1, 0, 3));
        of("and an empty register", STATE, x -> x.filled(2, 0, 0, 0));
    }
}
