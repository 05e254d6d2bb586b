/** Promise 17: isLeast. */
public final class Promise17IsLeastTest {
    private static final Check CHECK = new Check();

    private static void least(String p, String a, String b, int due) {
        LeastPatterns x = Check.with(p, a, b);
        CHECK.due(p + " for " + a + " and " + b, x.isLeast(0, 1, 2), due);
        CHECK.due(p + " for " + b + " and " + a, x.isLeast(0, 2, 1), due);
        CHECK.due("states", x.told(7), 3);
    }

    public static void main(String[] args) {
        notCovering();
        sameHoles();
        termHoles();
        headHoles();
        sequenceHoles();
        wrongCalls();
        CHECK.end();
    }

    private static void notCovering() {
        least("a", "a", "a", 1);
        least("a", "a", "b", 0);
        least("a", "b", "b", 0);
        least("a(0)", "a(b)", "c", 0);
        least("a(0,0)", "a(b,b)", "a(b,c)", 0);
    }

    private static void sameHoles() {
        least("a(0,1)", "a(b,b)", "a(c,c)", 0);
        least("a(0,0)", "a(b,b)", "a(c,c)", 1);
        least("a(0,1)", "a(b,b)", "a(c,d)", 1);
        least("a(0,1,2)", "a(b,d,b)", "a(c,c,c)", 0);
        least("a(0,1)", "a(b(d),b(e))", "a(c,c)", 1);
        least("a(0(b),1(b))", "a(b(b),b(b))", "a(c(b),c(b))", 0);
        least("a(0(b),1(b))", "a(b(b),c(b))", "a(c(b),d(b))", 1);
        least("a(0(b),1(b))", "a(b(b),c(b))", "a(c(b),c(b))", 0);
        least("a(0(b),1)", "a(b(b),b)", "a(c(b),c)", 1);
        least("a(b(0*),c(1*))", "a(b(d),c(d))", "a(b,c)", 0);
        least("a(b(0*),c(1*))", "a(b(d),c(e))", "a(b,c)", 1);
        least("a(b(0*),c(0*))", "a(b(d),c(d))", "a(b,c)", 1);
        least("a(b(0*),1)", "a(b(d),d)", "a(b,e)", 1);
        least("a(0,1)", "a(5,5)", "a(b,b)", 0);
        least("a(0,1)", "a(5,6)", "a(b,b)", 1);
        least("a(0(b),1(b))", "a(5(b),5(b))", "a(c(b),c(b))", 0);
        least("a(0(b),1(b))", "a(5(b),6(b))", "a(c(b),c(b))", 1);
    }

    private static void termHoles() {
        least("0", "a", "b", 1);
        least("0", "a", "a", 0);
        least("0", "a(b,c)", "a(d,e)", 0);
        least("0", "a(b,c)", "a(b)", 1);
        least("0", "a(b,c,d,e,f,g,h,i)", "a(c,d,e,f,g,h,i,j)", 0);
        least("0", "m", "m", 0);
        least("0", "5", "5", 1);
        least("0", "5", "a", 1);
        least("0", "5(b)", "5(b)", 1);
        least("0", "a(5*)", "a(5*)", 1);
        least("0", "a(b(5*))", "a(c)", 0);
        least("0", "a(5*)", "a(b)", 1);
        least("0", "a(5(b))", "a(5(b))", 0);
        least("b(c,0)", "b(c,a)", "b(c,a)", 0);
    }

    private static void headHoles() {
        least("0(b)", "a(b)", "c(b)", 1);
        least("0(b)", "a(b)", "a(b)", 0);
        least("0(b)", "5(b)", "5(b)", 1);
        least("0(b)", "5(b)", "a(b)", 1);
        least("0(1*)", "a", "a", 0);
        least("0(1*)", "a", "b(c)", 1);
    }

    private static void sequenceHoles() {
        least("a(0*)", "a", "a(b)", 1);
        least("a(0*)", "a", "a", 0);
        least("a(0*)", "a(b)", "a(c)", 0);
        least("a(0*)", "a(b)", "a(c,d)", 0);
        least("a(0*)", "a(5*)", "a(5*)", 1);
        least("a(0*)", "a(5*)", "a", 1);
        least("a(0*)", "a(5*,b)", "a(c,6*,d)", 0);
        least("a(0*)", "a(b,5*)", "a(c,6*,d)", 0);
        least("a(0*)", "a(b,5*)", "a(6*,d)", 1);
        least("a(0*)", "a(5*)", "a(b)", 1);
        least("a(b,0*,c)", "a(b,c)", "a(b,c)", 0);
        least("a(b,0*,c)", "a(b,c)", "a(b,d,c)", 1);
        // the limits of terms do not matter: the step's pattern would have nine arguments
        least("a(b,b,b,b,b,b,b,0*)", "a(b,b,b,b,b,b,b,b)", "a(b,b,b,b,b,b,b,c)", 0);
        // all places of a hole are changed
        least("a(b(0*),c(0*))", "a(b(d),c(d))", "a(b(e),c(e))", 0);
        least("c(0(1*))", "c(a)", "c(a(b))", 0);
        // the sequence hole vanishes also where it leaves a head hole without arguments
        least("0(1*)", "a", "b", 0);
    }

    private static void wrongCalls() {
        LeastPatterns x = Check.with("a", "a");
        CHECK.badRegister("isLeast", r -> x.isLeast(r, 0, 1));
        CHECK.badRegister("isLeast", r -> x.isLeast(0, r, 1));
        CHECK.badRegister("isLeast", r -> x.isLeast(0, 1, r));
        CHECK.badRegister("isLeast of an empty one", r -> x.isLeast(5, 5, r));
        CHECK.due("empty", x.isLeast(2, 0, 1), LeastPatterns.STATE);
        CHECK.due("empty", x.isLeast(0, 2, 1), LeastPatterns.STATE);
        CHECK.due("empty", x.isLeast(0, 1, 2), LeastPatterns.STATE);
        CHECK.due("isLeast(0, 0, 0)", x.isLeast(0, 0, 0), 1);
        joins();
    }

    /** What join() makes is least, as long as the holes of the terms are none. */
    private static void joins() {
        LeastPatterns x = Check.with("f(a(b),c,a(d,e))", "f(b(b),c,a(e,d))", "f(c(d),c,b(m,m))");
        x.set(0, 1);
        for (int a = 0; a < 3; a++) {
            for (int b = 0; b < 3; b++) {
                x.join(a, b, 5);
                CHECK.due("the join of " + a + " and " + b, x.isLeast(5, a, b), 1);
            }
        }
        x.joinAll(7, 6);
        CHECK.due("the join of all", x.isLeast(6, 0, 1), 0);
    }
}
