/** Promise 14: filled. */
public final class Promise14FilledTest {
    private static final Check CHECK = new Check();
    private static final int NONE = LeastPatterns.NONE;

    private static void filled(String p, String t, int hole, int... due) {
        LeastPatterns x = Check.with("", "", p, t);
        for (int what = 0; what <= 2; what++) {
            CHECK.due("filled, " + p + " with " + t + ", hole " + hole + ", " + what,
                    x.filled(2, 3, hole, what), due[what]);
        }
        CHECK.due("states", x.told(7), 2);
    }

    public static void main(String[] args) {
        filled("0", "a(b,c(d))", 0, 0, 4, 1);
        filled("a(b,0)", "a(b,c(d,e))", 0, 2, 3, 1);
        filled("a(b(1),0,1)", "a(b(c),d,c)", 0, 3, 1, 1);
        filled("a(b(1),0,1)", "a(b(c),d,c)", 1, 2, 1, 1);
        filled("a(3,b,3)", "a(c(d),b,c(d))", 3, 1, 2, 1);
        filled("0(1,0(1))", "a(b(c),a(b(c)))", 0, 0, 1, 1);
        filled("0(1,0(1))", "a(b(c),a(b(c)))", 1, 1, 2, 1);
        filled("b(c,0(1*))", "b(c,a(b,c))", 0, 2, 1, 1);
        filled("b(c,0(1*))", "b(c,a(b,c(d)))", 1, 3, 3, 2);
        filled("b(c,0(1*))", "b(c,a)", 1, NONE, 0, 0);
        filled("b(c,0(1*))", "b(c,a)", 0, 2, 1, 1);
        filled("a(9*)", "a", 9, NONE, 0, 0);
        filled("a(9*)", "a(b,c,d,e,f,g,h,i)", 9, 1, 8, 8);
        filled("a(b(0*),c,0*)", "a(b(d,e(f)),c,d,e(f))", 0, 2, 3, 2);
        filled("a(b,0*,c)", "a(b,d(e),5*,f(g,h),c)", 0, 2, 6, 3);
        filled("a(0*)", "a(5*)", 0, 1, 1, 1);
        filled("a(0,1)", "a(5,6(b))", 0, 1, 1, 1);
        filled("a(0,1(b))", "a(5,6(b))", 1, 2, 1, 1);
        filled("a(0,1(b))", "a(5,6(b))", 2, NONE, NONE, NONE);
        filled("a(0,1(b))", "a(5,6(b))", 5, NONE, NONE, NONE);
        filled("a(0,1(b))", "a(5,6(c))", 0, NONE, NONE, NONE);
        filled("a(0,0)", "a(b,c)", 0, NONE, NONE, NONE);
        filled("a(0,1)", "b", 0, NONE, NONE, NONE);
        filled("a(b)", "a(b)", 0, NONE, NONE, NONE);
        wrongCalls();
        CHECK.end();
    }

    private static void wrongCalls() {
        LeastPatterns x = Check.with("a(0)", "a(b)");
        CHECK.badRegister("filled", r -> x.filled(r, 1, 0, 0));
        CHECK.badRegister("filled", r -> x.filled(0, r, 0, 0));
        CHECK.badRegister("filled of an empty one", r -> x.filled(5, r, 0, 0));
        CHECK.due("hole -1", x.filled(0, 1, -1, 0), LeastPatterns.BAD);
        CHECK.due("hole 10", x.filled(0, 1, 10, 0), LeastPatterns.BAD);
        CHECK.due("what -1", x.filled(0, 1, 0, -1), LeastPatterns.BAD);
        CHECK.due("what 3", x.filled(0, 1, 0, 3), LeastPatterns.BAD);
        CHECK.due("what 3, not covered", x.filled(1, 0, 0, 3), LeastPatterns.BAD);
        CHECK.due("what 3, empty", x.filled(2, 0, 0, 3), LeastPatterns.BAD);
        CHECK.due("empty", x.filled(2, 0, 9, 0), LeastPatterns.STATE);
        CHECK.due("empty", x.filled(0, 2, 9, 0), LeastPatterns.STATE);
        CHECK.due("itself", x.filled(0, 0, 0, 0), 1);
    }
}
