/** A new object, fault(), told() and digest() at their bounds, and what an object answers up to its 512th call. */
public final class BoundaryWholeTest {
    private static final Check CHECK = new Check();
    private static final int NONE = LeastPatterns.NONE;
    private static final int CALLS = 512;
    private static final String WHOLE = "a(b(c,c,c,c,c,c,c),b(c,c,c,c,c,c,c),b(c,c,c,c,c,c,c),b(c,c,c,c,c,c))";

    public static void main(String[] args) {
        newObject();
        faults();
        told();
        digest();
        digestOfTheLargest();
        typed();
        settings();
        puts();
        joins();
        rules();
        questions();
        CHECK.end();
    }

    private static void newObject() {
        CHECK.sentence("Promise 1: a new object", "empty registers, the settings as at first, and an empty text buffer");
        LeastPatterns x = new LeastPatterns();
        for (int what = 0; what <= 7; what++) {
            CHECK.due("told(" + what + ")", x.told(what), 0);
        }
        for (int r = 0; r < 8; r++) {
            CHECK.due("size(" + r + ")", x.size(r, 0), LeastPatterns.STATE);
            CHECK.due("node(" + r + ")", x.node(r, 0, 0), LeastPatterns.STATE);
            CHECK.due("covered(" + r + ")", x.covered(r), LeastPatterns.STATE);
            CHECK.due("join(" + r + ")", x.join(r, r, r), LeastPatterns.STATE);
            CHECK.due("empty(" + r + ")", x.empty(r), LeastPatterns.STATE);
        }
        CHECK.due("fault", x.fault(), NONE);
        CHECK.due("undo", x.undo(), LeastPatterns.STATE);
        CHECK.due("clear", x.clear(), 0);
        CHECK.due("put", x.put(0), -10);
        CHECK.due("the first byte", x.type(109), 1);
        CHECK.due("put", x.put(0), 1);
        // another object has nothing of this one
        LeastPatterns y = new LeastPatterns();
        CHECK.same("a second object", y, new LeastPatterns());
    }

    private static void faults() {
        CHECK.sentence("Promise 5: fault", "Returns 1 to 5; NONE if it found none, or there was no such call");
        LeastPatterns x = new LeastPatterns();
        CHECK.due("no such call", x.fault(), NONE);
        CHECK.due("put with a register out of range", x.put(8), LeastPatterns.BAD);
        CHECK.due("put with a register out of range", x.put(-1), LeastPatterns.BAD);
        CHECK.due("no such call with a register in range", x.fault(), NONE);
        x.set(2, 1);
        String[] texts = {"", "a(b,b,b,b,b,b,b,b,b)", "a(a(a(a(a(a(a(a(b))))))))", "a(0,0*)", "a(0*,a(1*))"};
        for (int kind = 1; kind <= 5; kind++) {
            Check.typeText(x, texts[kind - 1]);
            x.put(kind);
            CHECK.due("kind " + kind, x.fault(), kind);
            CHECK.due("again", x.fault(), kind);
            x.put(8);
            CHECK.due("behind a register out of range", x.fault(), kind);
            x.set(0, 0);
            x.join(0, 1, 2);
            x.clear();
            x.undo();
            CHECK.due("behind other calls", x.fault(), kind);
            Check.putText(x, 0, "a");
            CHECK.due("none", x.fault(), NONE);
            x.put(8);
            CHECK.due("behind a register out of range", x.fault(), NONE);
        }
    }

    private static void told() {
        CHECK.sentence("Promise 20: told", "4 for the number of registers that are not empty, 5 for the sum of the nodes of all terms");
        LeastPatterns x = new LeastPatterns();
        for (int r = 0; r < 8; r++) {
            Check.putText(x, r, WHOLE);
            CHECK.due("registers", x.told(4), r + 1);
            CHECK.due("nodes", x.told(5), 32 * (r + 1));
        }
        Check.putText(x, 7, "a");
        CHECK.due("registers", x.told(4), 8);
        CHECK.due("nodes", x.told(5), 225);
        x.empty(0);
        CHECK.due("registers", x.told(4), 7);
        CHECK.due("nodes", x.told(5), 193);
        CHECK.sentence("Promise 20: told", "0 to 3 for this setting");
        int[] most = {1, 1, 8191, 8191};
        for (int what = 0; what <= 3; what++) {
            x.set(what, most[what]);
            CHECK.due("the largest", x.told(what), most[what]);
        }
        CHECK.sentence("Promise 20: told", "6 for the bytes of the text buffer");
        x.clear();
        for (int n = 0; n <= 80; n++) {
            CHECK.due("bytes", x.told(6), n);
            CHECK.due("type", x.type('a'), n < 80 ? n + 1 : LeastPatterns.FULL);
        }
        CHECK.due("bytes", x.told(6), 80);
        CHECK.sentence("Promise 20: told", "7 for the remembered states");
        for (int n = 6; n >= 0; n--) {
            CHECK.due("states", x.told(7), n);
            x.undo();
        }
        CHECK.due("states", x.told(7), 0);
    }

    /** The digest as the document tells it, from the other calls. */
    private static long expected(LeastPatterns x) {
        long h = 17369;
        for (int what = 0; what <= 7; what++) {
            h = 31 * h + x.told(what);
        }
        for (int r = 0; r < 8; r++) {
            int nodes = x.size(r, 0);
            if (nodes < 0) {
                continue;
            }
            h = 31 * h + r;
            for (int what = 0; what <= 4; what++) {
                h = 31 * h + x.size(r, what);
            }
            for (int i = 0; i < nodes; i++) {
                for (int what = 0; what <= 4; what++) {
                    h = 31 * h + x.node(r, i, what);
                }
            }
            h = 31 * h + x.covered(r);
        }
        return 31 * h + x.fault();
    }

    private static void digest() {
        CHECK.sentence("Promise 22: digest", "h is 17369 at first; told() for 0 to 7; no register; fault()");
        long h = 17369;
        for (int k = 0; k < 8; k++) {
            h *= 31;
        }
        CHECK.due("of a new object", new LeastPatterns().digest(), 31 * h - 9);
        CHECK.sentence("Promise 22: digest", "for each register that is not empty: its number, size(), node(), and behind all nodes covered()");
        for (int r = 0; r < 8; r++) {
            LeastPatterns x = new LeastPatterns();
            x.type('3');
            x.put(r);
            long g = 17369;
            long[] values = {0, 0, 0, 0, 1, 1, 1, 1, r, 1, 0, 1, 0, 3, 1, 3, 0, 0, 1, 1 << r, NONE};
            for (long v : values) {
                g = 31 * g + v;
            }
            CHECK.due("one hole in register " + r, x.digest(), g);
            CHECK.due("one hole in register " + r, x.digest(), expected(x));
            x.empty(r);
            CHECK.due("behind empty", x.digest(), expected(x));
        }
    }

    private static void digestOfTheLargest() {
        CHECK.sentence("Promise 22: digest", "long arithmetic that wraps around");
        LeastPatterns x = new LeastPatterns();
        for (int r = 0; r < 8; r++) {
            Check.putText(x, r, WHOLE);
            CHECK.due("with " + (r + 1) + " terms", x.digest(), expected(x));
        }
        for (int what = 0; what <= 3; what++) {
            x.set(what, what < 2 ? 1 : 8191);
            CHECK.due("with settings", x.digest(), expected(x));
        }
        Check.typeText(x, "a".repeat(80));
        x.put(0);
        CHECK.due("with a fault and a full text", x.digest(), expected(x));
        CHECK.due("again", x.digest(), x.digest());
        for (int n = 0; n < 7; n++) {
            x.undo();
            CHECK.due("behind undo", x.digest(), expected(x));
        }
    }

    // ---- "An object is used for at most 512 calls": the answers of all of them are as due

    private static void typed() {
        CHECK.sentence("Promises 2 and 3: type and clear", "at most 512 calls");
        LeastPatterns x = new LeastPatterns();
        for (int call = 1; call < CALLS; call++) {
            CHECK.due("call " + call, x.type('b'), call <= 80 ? call : LeastPatterns.FULL);
        }
        CHECK.due("the 512th call", x.clear(), 80);
        LeastPatterns y = new LeastPatterns();
        for (int call = 1; call < CALLS; call += 2) {
            CHECK.due("call " + call, y.type('b'), 1);
            CHECK.due("call " + (call + 1), y.clear(), 1);
        }
    }

    private static void settings() {
        CHECK.sentence("Promises 7 and 21: set and undo", "at most 512 calls");
        LeastPatterns x = new LeastPatterns();
        for (int call = 1; call < CALLS; call++) {
            CHECK.due("call " + call, x.set(2, call), call - 1);
        }
        CHECK.due("the 512th call", x.undo(), 5);
        LeastPatterns y = new LeastPatterns();
        for (int call = 1; call <= CALLS - 7; call++) {
            y.set(3, call);
        }
        for (int left = 5; left >= 0; left--) {
            CHECK.due("undo", y.undo(), left);
        }
        CHECK.due("the 512th call", y.told(3), CALLS - 7 - 6);
    }

    private static void puts() {
        CHECK.sentence("Promises 4 and 6: put and empty", "at most 512 calls");
        LeastPatterns x = new LeastPatterns();
        for (int k = 0; k < WHOLE.length(); k++) {
            x.type(WHOLE.charAt(k));
        }
        for (int call = WHOLE.length() + 1; call < CALLS; call++) {
            CHECK.due("call " + call, x.put(call % 8), 32);
        }
        CHECK.due("the 512th call", x.told(5), 256);
        LeastPatterns y = new LeastPatterns();
        y.type('0');
        y.type('(');
        for (int call = 3; call < CALLS; call++) {
            CHECK.due("call " + call, y.put(call % 8), -12);
        }
        CHECK.due("the 512th call", y.told(7), 0);
        LeastPatterns z = new LeastPatterns();
        z.type('m');
        for (int call = 2; call < CALLS; call += 2) {
            CHECK.due("call " + call, z.put(call % 8), 1);
            CHECK.due("call " + (call + 1), z.empty(call % 8), 1);
        }
        CHECK.due("the 512th call", z.told(7), 6);
    }

    /** Calls one by one up to the 512th, which must have the same digest as an object that came there sooner. */
    private static void upTo512(String name, int used, LeastPatterns x, LeastPatterns twin, int due, Check.Call call) {
        for (int n = used + 1; n < CALLS; n++) {
            CHECK.due(name + ", call " + n, call.on(x), due);
        }
        for (int n = 0; n < 7; n++) {
            call.on(twin);
        }
        CHECK.due(name + ", the 512th call", x.digest(), twin.digest());
    }

    private static LeastPatterns patterns() {
        LeastPatterns x = Check.with("a(b(c),d,b(e))", "a(c(c),d,d,c(e))", "a(0*)", "m(0*)");
        x.set(0, 1);
        x.set(1, 1);
        return x;
    }

    /** How many calls patterns() takes: clear() and put() for each text, its bytes, and the settings. */
    private static int callsOfPatterns() {
        return 4 * 2 + "a(b(c),d,b(e))a(c(c),d,d,c(e))a(0*)m(0*)".length() + 2;
    }

    private static void joins() {
        CHECK.sentence("Promises 10 to 12: join, joinAll and origin", "at most 512 calls");
        int used = callsOfPatterns();
        upTo512("join", used, patterns(), patterns(), 2, x -> x.join(0, 1, 7));
        upTo512("joinAll", used, patterns(), patterns(), 2, x -> x.joinAll(7, 7));
        upTo512("origin", used, patterns(), patterns(), 6, x -> x.origin(0, 1, 0, 3));
        upTo512("join of an empty one", used, patterns(), patterns(), LeastPatterns.STATE, x -> x.join(0, 6, 7));
    }

    private static void rules() {
        CHECK.sentence("Promises 18 and 19: learn and apply", "at most 512 calls");
        int used = callsOfPatterns();
        upTo512("learn", used, patterns(), patterns(), 1, x -> x.learn(0, 0, 1, 1, 6, 7));
        upTo512("apply", used, patterns(), patterns(), 6, x -> x.apply(2, 3, 0, 7));
        upTo512("apply with another hole", used, patterns(), patterns(), LeastPatterns.STATE, x -> x.apply(0, 3, 0, 7));
    }

    private static void questions() {
        CHECK.sentence("Promises 8, 9, 13 to 17, 20 and 22: what changes nothing", "at most 512 calls");
        int used = callsOfPatterns();
        upTo512("node", used, patterns(), patterns(), 2, x -> x.node(0, 4, 4));
        upTo512("size", used, patterns(), patterns(), 6, x -> x.size(0, 0));
        upTo512("covers", used, patterns(), patterns(), 1, x -> x.covers(2, 0));
        upTo512("filled", used, patterns(), patterns(), 3, x -> x.filled(2, 0, 0, 2));
        upTo512("compare", used, patterns(), patterns(), 1, x -> x.compare(2, 1));
        upTo512("covered", used, patterns(), patterns(), 7, x -> x.covered(2));
        upTo512("isLeast", used, patterns(), patterns(), 0, x -> x.isLeast(2, 0, 1));
        upTo512("told", used, patterns(), patterns(), 6, x -> x.told(7));
        upTo512("digest", used, patterns(), patterns(), (int) patterns().digest(), x -> (int) x.digest());
    }
}
