/** Promise 12: origin. */
public final class Promise12OriginTest {
    private static final Check CHECK = new Check();

    private static void origin(LeastPatterns x, int a, int b, int hole, int... due) {
        for (int what = 0; what <= 3; what++) {
            CHECK.due("origin(" + a + ", " + b + ", " + hole + ", " + what + ")",
                    x.origin(a, b, hole, what), due[what]);
        }
    }

    public static void main(String[] args) {
        int none = LeastPatterns.NONE;
        LeastPatterns x = Check.with("f(a,g(b(c),a),b(c))", "f(b,g(d,b),d)");
        origin(x, 0, 1, 0, 1, 1, 1, 1);
        origin(x, 0, 1, 1, 3, 2, 3, 1);
        origin(x, 0, 1, 2, none, none, none, none);
        origin(x, 0, 1, 9, none, none, none, none);
        origin(x, 1, 0, 1, 3, 1, 3, 2);
        origin(x, 0, 0, 0, none, none, none, none);
        CHECK.due("registers", Check.showAll(x), "f(a,g(b(c),a),b(c)) f(b,g(d,b),d) - - - - - -");
        CHECK.due("states", x.told(7), 2);
        heads();
        sequences();
        whole();
        wrongCalls();
        CHECK.end();
    }

    private static void heads() {
        LeastPatterns x = Check.with("m(a(b),c,a(d(e)))", "m(b(b),d,b(f(e)))");
        x.set(0, 1);
        origin(x, 0, 1, 0, 1, 1, 1, 1);
        origin(x, 0, 1, 1, 3, 1, 3, 1);
        origin(x, 0, 1, 2, 5, 1, 5, 1);
        x.set(0, 0);
        origin(x, 0, 1, 0, 1, 2, 1, 2);
        origin(x, 0, 1, 2, 4, 3, 4, 3);
    }

    private static void sequences() {
        int none = LeastPatterns.NONE;
        LeastPatterns x = Check.with("f(g(a),b,c)", "f(h(a),d,e(m),c)", "f(c)", "f(b(c),c,d)", "f");
        x.set(1, 1);
        origin(x, 0, 1, 0, 1, 3, 1, 5);
        origin(x, 0, 2, 0, 1, 3, none, 0);
        origin(x, 2, 0, 0, none, 0, 1, 3);
        origin(x, 3, 4, 0, 1, 4, none, 0);
        origin(x, 4, 2, 0, none, 0, 1, 1);
        LeastPatterns w = Check.with("c(a(b,b),a(b(d),e))", "c(a,a(b(d)))");
        w.set(1, 1);
        origin(w, 0, 1, 0, 2, 2, none, 0);
        origin(w, 0, 1, 1, 7, 1, none, 0);
        origin(w, 1, 0, 1, none, 0, 7, 1);
        LeastPatterns y = Check.with("a(b,1*,c)", "a(b,c)", "a(b(d),d,1*,c)");
        origin(y, 0, 1, 0, 2, 1, none, 0);
        origin(y, 2, 0, 0, 1, 2, 1, 1);
        LeastPatterns z = Check.with("a(b(d),d,1*,c)", "a(b(e),2,c)");
        origin(z, 0, 1, 0, 2, 1, 2, 1);
        origin(z, 0, 1, 1, 3, 2, 3, 1);
    }

    private static void whole() {
        LeastPatterns x = Check.with("a(b,c)", "d", "0(3)");
        origin(x, 0, 1, 0, 0, 3, 0, 1);
        origin(x, 2, 0, 0, 0, 2, 0, 3);
        origin(x, 2, 2, 0, 0, 2, 0, 2);
        origin(x, 2, 2, 3, -9, -9, -9, -9);
    }

    private static void wrongCalls() {
        LeastPatterns x = Check.with("a(b(a,b,c,d,e,f),b(g,h,i,j,k))", "a(b(b,c,d,e,f,g),b(h,i,j,k,l))", "a");
        CHECK.badRegister("origin", r -> x.origin(r, 1, 0, 0));
        CHECK.badRegister("origin", r -> x.origin(0, r, 0, 0));
        CHECK.badRegister("origin of an empty one", r -> x.origin(7, r, 0, 0));
        CHECK.due("hole -1", x.origin(0, 1, -1, 0), LeastPatterns.BAD);
        CHECK.due("hole 10", x.origin(0, 1, 10, 0), LeastPatterns.BAD);
        CHECK.due("what -1", x.origin(0, 1, 0, -1), LeastPatterns.BAD);
        CHECK.due("what 4", x.origin(0, 1, 0, 4), LeastPatterns.BAD);
        CHECK.due("what 4, empty", x.origin(0, 7, 0, 4), LeastPatterns.BAD);
        CHECK.due("empty", x.origin(0, 7, 0, 0), LeastPatterns.STATE);
        CHECK.due("empty", x.origin(7, 0, 0, 0), LeastPatterns.STATE);
        for (int what = 0; what <= 3; what++) {
            CHECK.due("join not possible", x.origin(0, 1, 0, what), LeastPatterns.FULL);
            CHECK.due("join not possible", x.origin(0, 1, 9, what), LeastPatterns.FULL);
        }
        CHECK.due("states", x.told(7), 3);
    }
}
