/** Promise 10: join. */
public final class Promise10JoinTest {
    private static final Check CHECK = new Check();
    private static final String ROW = "d(b(c),b(c),b,b)";
    private static final String OTHER = "d(b,b,b(c),b(c))";

    public static void main(String[] args) {
        evenArguments();
        unlikeHeads();
        alignedArguments();
        sequenceHoles();
        limits();
        registers();
        wrongCalls();
        CHECK.end();
    }

    /** Joins two texts with these values of the settings 0 and 1. */
    private static void join(int heads, int align, String t, String u, String want) {
        LeastPatterns x = Check.with(t, u);
        x.set(0, heads);
        x.set(1, align);
        int answer = x.join(0, 1, 2);
        CHECK.due("the join of " + t + " and " + u, Check.show(x, 2), want);
        CHECK.due("join of " + t + " and " + u, answer, x.size(2, 0));
        CHECK.due("states", x.told(7), 5);
        CHECK.due("covers", x.covers(2, 0), 1);
        CHECK.due("covers", x.covers(2, 1), 1);
    }

    private static void full(int heads, int align, String t, String u) {
        LeastPatterns x = Check.with(t, u, "m");
        x.set(0, heads);
        x.set(1, align);
        CHECK.due("join of " + t + " and " + u, x.join(0, 1, 2), LeastPatterns.FULL);
        CHECK.due("the register", Check.show(x, 2), "m");
        CHECK.due("states", x.told(7), 5);
    }

    private static void evenArguments() {
        join(0, 0, "a", "a", "a");
        join(0, 0, "a", "b", "0");
        join(0, 0, "f(a,g(a),b)", "f(b,g(b),b)", "f(0,g(0),b)");
        join(0, 0, "a(b,c,b)", "a(c,b,c)", "a(0,1,0)");
        join(0, 0, "a(b,b,c,c)", "a(b,c,b,c)", "a(b,0,1,c)");
        join(0, 0, "f(g(a,b),c)", "f(g(c,d),e)", "f(g(0,1),2)");
        join(0, 0, "f(g(a,b),a(b(c)))", "f(g(c,d),a(b(c)))", "f(g(0,1),a(b(c)))");
        join(0, 0, "a(b(c),b(c))", "a(d,d)", "a(0,0)");
        join(0, 0, "a(b(c),b(d))", "a(d,d)", "a(0,1)");
        join(0, 0, "a(b(c,d),b(c(d)))", "a(d,d)", "a(0,1)");
        join(0, 0, "a(b)", "c(b)", "0");
        join(0, 0, "a(b,c)", "a(b)", "0");
        join(0, 0, "a", "a(b)", "0");
        join(0, 0, "b(a(b,c),a)", "b(a(b),a)", "b(0,a)");
        // holes of the terms are parts like others
        join(0, 0, "3", "3", "0");
        join(0, 0, "3", "a", "0");
        join(0, 0, "a(5,4,5)", "a(5,4,5)", "a(0,1,0)");
        join(0, 0, "a(1,0)", "a(0,0)", "a(0,1)");
        join(0, 0, "0(a)", "0(a)", "0");
        join(0, 0, "b(0(a),1)", "b(0(a),0(a))", "b(0,1)");
        join(0, 0, "a(0,1(b))", "a(0,1(b))", "a(0,1)");
    }

    private static void unlikeHeads() {
        join(1, 0, "a", "b", "0");
        join(1, 0, "a(b)", "c(b)", "0(b)");
        join(1, 0, "a(b(c))", "d(e(c))", "0(1(c))");
        join(1, 0, "a(a(c))", "d(d(c))", "0(0(c))");
        join(1, 0, "a(b(a(b)))", "b(a(b(a)))", "0(1(0(2)))");
        join(1, 0, "f(a(c),a)", "f(b(c),b)", "f(0(c),1)");
        join(1, 0, "f(a,a(c))", "f(b,b(c))", "f(0,1(c))");
        join(1, 0, "f(a(c),a(d,e))", "f(b(c),b(d,m))", "f(0(c),0(d,1))");
        join(1, 0, "f(a(c),b(c))", "f(b(c),a(c))", "f(0(c),1(c))");
        join(1, 0, "a(b,c)", "d(b)", "0");
        join(1, 0, "a(b)", "d", "0");
        join(1, 1, "a(b,c)", "d(b)", "0");
        join(1, 1, "a(b,0*)", "d(b,0*)", "0");
        join(1, 0, "0(a)", "b(a)", "0");
        join(1, 0, "0(a)", "1(a)", "0");
        join(1, 1, "a(c(b),c)", "a(d(b),c,c)", "a(0*,c(1*),c)");
        join(1, 0, "a(c(b),c)", "a(d(b),c)", "a(0(b),c)");
    }

    private static void alignedArguments() {
        join(0, 1, "a(b,c)", "a(b)", "a(b,0*)");
        join(0, 1, "a(b)", "a(b,c)", "a(b,0*)");
        join(0, 1, "a(c,b)", "a(b)", "a(0*,b)");
        join(0, 1, "a(b,b,b)", "a(b,b)", "a(b,b,0*)");
        join(0, 1, "a", "a(b)", "a(0*)");
        join(0, 1, "a(b,c,d,e)", "a", "a(0*)");
        join(0, 1, "a(b(c),d,e)", "a(b(d),e)", "a(b(0),1*,e)");
        join(0, 1, "a(d,b(c))", "a(b(d))", "a(0*,b(1))");
        join(0, 1, "a(b,c,d)", "a(e,c,d)", "a(0,c,d)");
        join(0, 1, "a(b,c,d)", "a(c,d)", "a(0*,c,d)");
        join(0, 1, "a(b,m,c,d)", "a(b,l,l,c,d)", "a(b,0*,c,d)");
        join(0, 1, "a(b,c,b)", "a(b,b)", "a(b,0*,b)");
        join(0, 1, "a(b,c,b,c)", "a(b,c)", "a(b,c,0*)");
        join(0, 1, "a(0,b)", "a(0,c,b)", "a(0*,b)");
        join(0, 1, "a(b,0)", "a(b,c,0)", "a(b,0*)");
        join(0, 1, "c(a(b),a(b))", "c(a,a)", "c(a(0*),a(0*))");
        join(0, 1, "c(a(b),a)", "c(a,a(b))", "c(a(0*),a(1*))");
        join(0, 1, "c(a(b,b),a(b))", "c(a,a)", "c(a(0*),a(1*))");
        join(0, 1, "c(a(b(d)),a(b,d))", "c(a,a)", "c(a(0*),a(1*))");
        join(0, 1, "c(a(b),b)", "c(a(b,b),b)", "c(a(b,0*),b)");
        join(0, 1, "c(b,a(b))", "c(b,a(b,b))", "c(b,a(b,0*))");
        join(0, 1, "c(a(b,b),a(b(d),e))", "c(a,a(b(d)))", "c(a(0*),a(b(d),1*))");
        join(0, 1, "c(b,a(d),e)", "c(d,a,b)", "c(0,a(1*),2)");
        join(0, 1, "a(b,c)", "d(b)", "0");
        join(0, 1, "a(b,b,b,b,b,b,b,b)", "a(b,b,b,b,b,b,b)", "a(b,b,b,b,b,b,b,0*)");
        join(0, 1, "a(b,b,b,c,b,b,b,b)", "a(b,b,b,b,b,b,b)", "a(b,b,b,0*,b,b,b,b)");
    }

    private static void sequenceHoles() {
        join(0, 0, "a(0*)", "a(0*)", "a(0*)");
        join(0, 0, "a(5*)", "a(b)", "a(0*)");
        join(0, 0, "a(b,1*,c)", "a(b,d,c)", "a(b,0*,c)");
        join(0, 0, "a(b,1*)", "a(b,1*,c)", "a(b,0*)");
        join(0, 0, "a(0*,b)", "a(b)", "a(0*,b)");
        join(0, 0, "a(b)", "a(0*,b)", "a(0*,b)");
        join(0, 0, "a(2*,0,b)", "a(1,b)", "a(0*,b)");
        join(0, 0, "a(1*)", "a", "a(0*)");
        join(0, 0, "c(a(1*),a(1*),1*)", "c(a,a,d)", "c(a(0*),a(0*),1*)");
        join(0, 0, "c(a(1*),a(2*))", "c(a,a)", "c(a(0*),a(1*))");
        join(0, 0, "c(a(1*),a(b))", "c(a,a)", "c(a(0*),1)");
        join(0, 0, "a(b,b,b,0*,b,b,b,b)", "a(b,b,b,b,b,b,b,1*)", "a(b,b,b,0*)");
    }

    private static void limits() {
        join(0, 0, "a(b(a,b,c,d,e,f),b(g,h,i,j))", "a(b(b,c,d,e,f,g),b(h,i,j,k))",
                "a(b(0,1,2,3,4,5),b(6,7,8,9))");
        join(0, 0, "a(b(a,b,c,d,e,f),b(g,h,i,j,a))", "a(b(b,c,d,e,f,g),b(h,i,j,k,b))",
                "a(b(0,1,2,3,4,5),b(6,7,8,9,0))");
        full(0, 0, "a(b(a,b,c,d,e,f),b(g,h,i,j,k))", "a(b(b,c,d,e,f,g),b(h,i,j,k,l))");
        full(1, 0, "a(b(a(m),b(m),c(m),d(m),e(m),f(m)),b(g,h,i,j,k))",
                "a(b(b(m),c(m),d(m),e(m),f(m),g(m)),b(h,i,j,k,l))");
        String t = "a(" + ROW + "," + ROW + "," + ROW + ",b(c),b";
        String u = "a(" + OTHER + "," + OTHER + "," + OTHER + ",b,b(c)";
        String pattern = "d(b(0*),b(0*),b(1*),b(1*))";
        join(0, 1, t + ")", u + ")",
                "a(" + pattern + "," + pattern + "," + pattern + ",b(0*),b(1*))");
        full(0, 1, t + ",m)", u + ",m)");
        full(0, 1, "a(" + ROW + "," + ROW + "," + ROW + "," + ROW + ")",
                "a(" + OTHER + "," + OTHER + "," + OTHER + "," + OTHER + ")");
        join(0, 0, "a(a(a(a(a(a(a(b)))))))", "a(a(a(a(a(a(a(c)))))))", "a(a(a(a(a(a(a(0)))))))");
        join(0, 1, "a(a(a(a(a(a(a(b)))))))", "a(a(a(a(a(a(a))))))", "a(a(a(a(a(a(a(0*)))))))");
        String whole = "a(b(c,c,c,c,c,c,c),b(c,c,c,c,c,c,c),b(c,c,c,c,c,c,c),b(c,c,c,c,c,c))";
        join(1, 1, whole, whole, whole);
    }

    private static void registers() {
        LeastPatterns x = Check.with("a(b)", "a(c)");
        CHECK.due("join(0, 1, 0)", x.join(0, 1, 0), 2);
        CHECK.due("registers", Check.showAll(x), "a(0) a(c) - - - - - -");
        CHECK.due("join(1, 1, 1)", x.join(1, 1, 1), 2);
        CHECK.due("join(0, 1, 1)", x.join(0, 1, 1), 2);
        CHECK.due("join(0, 1, 7)", x.join(0, 1, 7), 2);
        CHECK.due("registers", Check.showAll(x), "a(0) a(0) - - - - - a(0)");
        CHECK.due("states", x.told(7), 6);
        // no flattening and no sorting of what is joined
        x = Check.with("a(a(b),d)", "a(a(c),d)");
        x.set(2, 1);
        x.set(3, 1);
        x.join(0, 1, 2);
        CHECK.due("join", Check.show(x, 2), "a(a(0),d)");
    }

    private static void wrongCalls() {
        LeastPatterns x = Check.with("a", "b");
        CHECK.badRegister("join", r -> x.join(r, 1, 2));
        CHECK.badRegister("join", r -> x.join(0, r, 2));
        CHECK.badRegister("join", r -> x.join(0, 1, r));
        CHECK.badRegister("join of an empty one", r -> x.join(5, r, 2));
        CHECK.badRegister("join of empty ones", r -> x.join(5, 6, r));
        CHECK.due("join(0, 2, 1)", x.join(0, 2, 1), LeastPatterns.STATE);
        CHECK.due("join(2, 0, 1)", x.join(2, 0, 1), LeastPatterns.STATE);
        CHECK.due("registers", Check.showAll(x), "a b - - - - - -");
        CHECK.due("states", x.told(7), 2);
    }
}
