/** Promise 18: learn. */
public final class Promise18LearnTest {
    private static final Check CHECK = new Check();

    private static LeastPatterns learn(int heads, int align, int due, String... texts) {
        LeastPatterns x = Check.with(texts[0], texts[1], texts[2], texts[3]);
        x.set(0, heads);
        x.set(1, align);
        String call = "learn " + texts[0] + " > " + texts[1] + " and " + texts[2] + " > " + texts[3];
        CHECK.due(call, x.learn(0, 1, 2, 3, 4, 5), due);
        CHECK.due(call + ": left", Check.show(x, 4), texts[4]);
        CHECK.due(call + ": right", Check.show(x, 5), texts[5]);
        CHECK.due("states", x.told(7), 6);
        return x;
    }

    public static void main(String[] args) {
        learn(0, 0, 1, "a(b,c)", "a(c,b)", "a(d,e)", "a(e,d)", "a(0,1)", "a(1,0)");
        learn(0, 0, 1, "a(b)", "c(b,b)", "a(d)", "c(d,d)", "a(0)", "c(0,0)");
        learn(0, 0, 0, "a(b)", "c(e)", "a(d)", "c(f)", "a(0)", "c(1)");
        learn(0, 0, 0, "a(b)", "c(d)", "a(d)", "c(b)", "a(0)", "c(1)");
        learn(0, 0, 1, "a(b)", "c", "a(d)", "c", "a(0)", "c");
        learn(0, 0, 1, "a", "c", "a", "c", "a", "c");
        learn(0, 0, 0, "a", "c", "a", "d", "a", "0");
        learn(1, 0, 1, "a(b)", "m(a(c))", "d(b)", "m(d(c))", "0(b)", "m(0(c))");
        learn(1, 0, 0, "a(b)", "a", "d(b)", "d", "0(b)", "1");
        learn(1, 0, 0, "m(a)", "a(b)", "m(d)", "d(b)", "m(0)", "1(b)");
        learn(0, 1, 1, "a(b,c)", "d(b,c,m)", "a", "d(m)", "a(0*)", "d(0*,m)");
        learn(0, 1, 0, "a(b,c)", "d(c,b,m)", "a", "d(m)", "a(0*)", "d(1*,m)");
        learn(0, 0, 0, "a(b,c)", "a(c,b,d,e)", "a(d,e)", "a(e,d,e,d)", "a(0,1)", "a(1,0,2,3)");
        learn(0, 0, 1, "b(a(c),d)", "a(c)", "b(e,f)", "e", "b(0,1)", "0");
        sameRegisters();
        full();
        wrongCalls();
        CHECK.end();
    }

    private static void sameRegisters() {
        LeastPatterns x = Check.with("a(b)", "a(c)");
        CHECK.due("learn(0, 0, 1, 1, 0, 1)", x.learn(0, 0, 1, 1, 0, 1), 1);
        CHECK.due("registers", Check.showAll(x), "a(0) a(0) - - - - - -");
        CHECK.due("states", x.told(7), 3);
        x.undo();
        CHECK.due("one state for both", Check.showAll(x), "a(b) a(c) - - - - - -");
        CHECK.due("learn(0, 1, 1, 0, 1, 0)", x.learn(0, 1, 1, 0, 1, 0), 0);
        CHECK.due("registers", Check.showAll(x), "a(1) a(0) - - - - - -");
    }

    private static void full() {
        String t = "a(b(a,b,c,d,e,f),b(g,h,i,j))";
        String u = "a(b(b,c,d,e,f,g),b(h,i,j,k))";
        learn(0, 0, 1, t, "a(a,j)", u, "a(b,k)", "a(b(0,1,2,3,4,5),b(6,7,8,9))", "a(0,9)");
        LeastPatterns x = Check.with(t, "a(k)", u, "a(l)", t, u);
        int states = x.told(7);
        CHECK.due("the right one needs an eleventh hole", x.learn(0, 1, 2, 3, 6, 7), LeastPatterns.FULL);
        CHECK.due("registers", x.told(4), 6);
        CHECK.due("states", x.told(7), states);
        CHECK.due("the right one alone", x.join(1, 3, 6), 2);
        CHECK.due("both alike", x.learn(0, 4, 2, 5, 6, 7), 1);
        LeastPatterns y = Check.with("a(b(a,b,c,d,e,f),b(g,h,i,j,k))", "a", "a(b(b,c,d,e,f,g),b(h,i,j,k,l))", "a");
        CHECK.due("the left one is not possible", y.learn(0, 1, 2, 3, 6, 7), LeastPatterns.FULL);
        CHECK.due("the right one is not possible", y.learn(1, 0, 3, 2, 6, 7), LeastPatterns.FULL);
        CHECK.due("STATE comes before FULL", y.learn(0, 1, 2, 7, 6, 7), LeastPatterns.STATE);
    }

    private static void wrongCalls() {
        LeastPatterns x = Check.with("a", "b", "c", "d");
        CHECK.badRegister("learn", r -> x.learn(r, 1, 2, 3, 4, 5));
        CHECK.badRegister("learn", r -> x.learn(0, r, 2, 3, 4, 5));
        CHECK.badRegister("learn", r -> x.learn(0, 1, r, 3, 4, 5));
        CHECK.badRegister("learn", r -> x.learn(0, 1, 2, r, 4, 5));
        CHECK.badRegister("learn", r -> x.learn(0, 1, 2, 3, r, 5));
        CHECK.badRegister("learn", r -> x.learn(0, 1, 2, 3, 4, r));
        CHECK.badRegister("learn of an empty one", r -> x.learn(7, 1, 2, 3, 4, r));
        for (int r = 0; r < 8; r++) {
            CHECK.due("left and right the same", x.learn(0, 1, 2, 3, r, r), LeastPatterns.BAD);
            CHECK.due("and one empty", x.learn(0, 1, 2, 7, r, r), LeastPatterns.BAD);
        }
        CHECK.due("empty", x.learn(7, 1, 2, 3, 4, 5), LeastPatterns.STATE);
        CHECK.due("empty", x.learn(0, 7, 2, 3, 4, 5), LeastPatterns.STATE);
        CHECK.due("empty", x.learn(0, 1, 7, 3, 4, 5), LeastPatterns.STATE);
        CHECK.due("empty", x.learn(0, 1, 2, 7, 4, 5), LeastPatterns.STATE);
        CHECK.due("registers", Check.showAll(x), "a b c d - - - -");
        CHECK.due("states", x.told(7), 4);
    }
}
