/** Promise 19: apply. */
public final class Promise19ApplyTest {
    private static final Check CHECK = new Check();
    private static final int STATE = LeastPatterns.STATE;
    private static final int FULL = LeastPatterns.FULL;

    private static void apply(String left, String right, String t, String want) {
        LeastPatterns x = Check.with(left, right, t);
        int answer = x.apply(0, 1, 2, 3);
        CHECK.due(left + " > " + right + " of " + t, Check.show(x, 3), want);
        CHECK.due("apply", answer, x.size(3, 0));
        CHECK.due("states", x.told(7), 4);
    }

    private static void not(String left, String right, String t, int due) {
        LeastPatterns x = Check.with(left, right, t, "m");
        CHECK.due(left + " > " + right + " of " + t, x.apply(0, 1, 2, 3), due);
        CHECK.due("the register", Check.show(x, 3), "m");
        CHECK.due("states", x.told(7), 4);
    }

    public static void main(String[] args) {
        filling();
        holesOfTheTerm();
        notPossible();
        tooLarge();
        registers();
        wrongCalls();
        CHECK.end();
    }

    private static void filling() {
        apply("a", "b(c)", "a", "b(c)");
        apply("0", "0", "a(b,c)", "a(b,c)");
        apply("a(0,1)", "a(1,0)", "a(b(c),d)", "a(d,b(c))");
        apply("a(0,1)", "c(0,0,d(0))", "a(b(c),d)", "c(b(c),b(c),d(b(c)))");
        apply("a(0,1)", "1", "a(b(c),d(e,f))", "d(e,f)");
        apply("0(b)", "c(0(d,e))", "a(b)", "c(a(d,e))");
        apply("0(1*)", "0(b,1*)", "a", "a(b)");
        apply("0(1*)", "0(b,1*)", "a(c,d(e))", "a(b,c,d(e))");
        apply("0(1*)", "m(0(1*),1*)", "a(c)", "m(a(c),c)");
        apply("a(0*)", "b(0*)", "a", "b");
        apply("a(0(b),1*)", "0(1*)", "a(c(b))", "c");
        apply("a(0*,b)", "a(b,0*)", "a(c,d,b)", "a(b,c,d)");
        apply("a(1*)", "c(a(1*),b(1*),1*)", "a(d,e)", "c(a(d,e),b(d,e),d,e)");
        apply("a(1*)", "b(1*)", "a(b,c,d,e,f,g,h,i)", "b(b,c,d,e,f,g,h,i)");
    }

    private static void holesOfTheTerm() {
        apply("a(0)", "b(0,0)", "a(5)", "b(5,5)");
        apply("a(0,1)", "b(0,1)", "a(1,0)", "b(1,0)");
        apply("a(0(b),1*)", "0(c,1*)", "a(7(b),d,8*)", "7(c,d,8*)");
        apply("0(1*)", "0(1*)", "3(4*)", "3(4*)");
        apply("0(1*)", "b(0(1*))", "a(2,3*)", "b(a(2,3*))");
        apply("a(0)", "0", "a(b(1,2(3*)))", "b(1,2(3*))");
        apply("0(1)", "0(1)", "5(6)", "5(6)");
    }

    private static void notPossible() {
        not("a", "b", "c", STATE);
        not("a(0,0)", "0", "a(b,c)", STATE);
        not("a(0)", "a(1)", "a(b)", STATE);
        not("a", "0", "a", STATE);
        not("a(0)", "a(0*)", "a(b)", STATE);
        not("a(0)", "0(b)", "a(b)", STATE);
        not("0(b)", "0", "a(b)", STATE);
        not("a(0*)", "a(0)", "a(b)", STATE);
        not("a(0*)", "0(b)", "a(b)", STATE);
        not("0(b)", "a(0*)", "a(b)", STATE);
        // a head hole of the term would be left without arguments, a symbol may be
        not("a(0(b),1*)", "0(1*)", "a(5(b))", STATE);
        apply("a(0(b),1*)", "0(1*)", "a(d(b))", "d");
        not("a(0(b),1*)", "c(d,0(b),0(1*))", "a(5(b))", STATE);
        apply("a(0(b),1*)", "c(d,0(b),0(1*))", "a(5(b),e)", "c(d,5(b),5(e))");
        apply("a(0(b),1*)", "c(d,0(b,1*))", "a(5(b))", "c(d,5(b))");
    }

    private static void tooLarge() {
        String seven = "a(b,c,d(e),f,g)";
        apply("a(0,1)", "b(0,0,0,0,1)", "a(" + seven + ",c(d,e))",
                "b(" + seven + "," + seven + "," + seven + "," + seven + ",c(d,e))");
        not("a(0,1)", "b(0,0,0,0,1)", "a(" + seven + ",c(d,e,f))", FULL);
        not("a(0,1)", "b(0,0,0,0,0,0,0,1)", "a(" + seven + ",c(d,e))", FULL);
        not("a(1*)", "b(c,1*)", "a(b,c,d,e,f,g,h,i)", FULL);
        not("a(1*)", "c(b(d,1*,d))", "a(b,c,d,e,f,g,h)", FULL);
        apply("a(1*)", "c(b(d,1*,d))", "a(b,c,d,e,f,g)", "c(b(d,b,c,d,e,f,g,d))");
        not("0(1*)", "0(1*,a)", "5(b,c,d,e,f,g,h,i)", FULL);
        apply("a(0)", "a(a(a(a(0))))", "a(b(c(d(e))))", "a(a(a(a(b(c(d(e)))))))");
        not("a(0)", "a(a(a(a(0))))", "a(b(c(d(e(f)))))", FULL);
        not("a(0*)", "a(a(a(a(a(0*)))))", "a(b(c(d(e))))", FULL);
        apply("a(0*)", "a(a(a(a(0*))))", "a(b(c(d(e))))", "a(a(a(a(b(c(d(e)))))))");
        // STATE comes before FULL, wherever the head hole stands
        not("a(0(b),2,1*)", "c(2,2,2,2,2,0(1*))", "a(5(b)," + seven + ")", STATE);
        not("a(0(b),2,1*)", "c(2,2,2,2,2,0(d))", "a(5(b)," + seven + ")", FULL);
        not("a(0)", "b(0,0,0,0,0,1)", "a(" + seven + ")", STATE);
    }

    private static void registers() {
        LeastPatterns x = Check.with("a(0)", "b(0,0)", "a(c)");
        CHECK.due("apply(0, 1, 2, 2)", x.apply(0, 1, 2, 2), 3);
        CHECK.due("registers", Check.showAll(x), "a(0) b(0,0) b(c,c) - - - - -");
        x.undo();
        CHECK.due("apply(0, 1, 0, 1)", x.apply(0, 1, 0, 1), 3);
        CHECK.due("registers", Check.showAll(x), "a(0) b(0,0) a(c) - - - - -");
        CHECK.due("apply(0, 0, 2, 0)", x.apply(0, 0, 2, 0), 2);
        CHECK.due("registers", Check.showAll(x), "a(c) b(0,0) a(c) - - - - -");
        // the new term is neither flattened nor sorted
        x = Check.with("a(0,1)", "b(1,0)", "a(c,b(b(e),d))");
        x.set(2, 8191);
        x.set(3, 8191);
        x.apply(0, 1, 2, 7);
        CHECK.due("register", Check.show(x, 7), "b(b(b(e),d),c)");
    }

    private static void wrongCalls() {
        LeastPatterns x = Check.with("a(0)", "b(0)", "a(c)");
        CHECK.badRegister("apply", r -> x.apply(r, 1, 2, 3));
        CHECK.badRegister("apply", r -> x.apply(0, r, 2, 3));
        CHECK.badRegister("apply", r -> x.apply(0, 1, r, 3));
        CHECK.badRegister("apply", r -> x.apply(0, 1, 2, r));
        CHECK.badRegister("apply of an empty one", r -> x.apply(7, 1, 2, r));
        CHECK.badRegister("apply of what is not covered", r -> x.apply(2, 1, 0, r));
        CHECK.due("empty", x.apply(7, 1, 2, 3), STATE);
        CHECK.due("empty", x.apply(0, 7, 2, 3), STATE);
        CHECK.due("empty", x.apply(0, 1, 7, 3), STATE);
        CHECK.due("registers", Check.showAll(x), "a(0) b(0) a(c) - - - - -");
        CHECK.due("states", x.told(7), 3);
    }
}
