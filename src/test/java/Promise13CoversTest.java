/** Promise 13: covers. */
public final class Promise13CoversTest {
    private static final Check CHECK = new Check();

    private static void covers(String p, String t, int due) {
        LeastPatterns x = Check.with(p, t);
        CHECK.due(p + " covers " + t, x.covers(0, 1), due);
        CHECK.due("states", x.told(7), 2);
    }

    public static void main(String[] args) {
        termHoles();
        headHoles();
        sequenceHoles();
        holesOfTheTerm();
        LeastPatterns x = Check.with("a(0)", "a(b)");
        CHECK.badRegister("covers", r -> x.covers(r, 1));
        CHECK.badRegister("covers", r -> x.covers(0, r));
        CHECK.badRegister("covers of an empty one", r -> x.covers(5, r));
        CHECK.due("empty pattern", x.covers(2, 1), LeastPatterns.STATE);
        CHECK.due("empty term", x.covers(0, 2), LeastPatterns.STATE);
        CHECK.due("itself", x.covers(0, 0), 1);
        CHECK.due("the other way", x.covers(1, 0), 0);
        CHECK.end();
    }

    private static void termHoles() {
        covers("a", "a", 1);
        covers("a", "b", 0);
        covers("a", "a(b)", 0);
        covers("a(b)", "a", 0);
        covers("0", "a(b,c(d))", 1);
        covers("a(0,0)", "a(b(c),b(c))", 1);
        covers("a(0,0)", "a(b(c),b(d))", 0);
        covers("a(0,0)", "a(b(c,d),b(c(d)))", 0);
        covers("a(0,1)", "a(b,b)", 1);
        covers("a(0,1)", "a(b)", 0);
        covers("a(0)", "a(b,c)", 0);
        covers("a(0,b(0))", "a(c,b(c))", 1);
        covers("a(0,b(0))", "a(c,b(d))", 0);
        covers("a(b(c,c,c,c,c,c,c),b(c,c,c,c,c,c,c),b(c,c,c,c,c,c,c),b(c,c,c,c,c,c))",
                "a(b(c,c,c,c,c,c,c),b(c,c,c,c,c,c,c),b(c,c,c,c,c,c,c),b(c,c,c,c,c,d))", 0);
    }

    private static void headHoles() {
        covers("0(b)", "a(b)", 1);
        covers("0(b)", "a(c)", 0);
        covers("0(b)", "a", 0);
        covers("0(b)", "a(b,b)", 0);
        covers("0(0(b))", "a(a(b))", 1);
        covers("0(0(b))", "a(c(b))", 0);
        covers("0(1(b))", "a(a(b))", 1);
        covers("m(0(b),0(c,c))", "m(d(b),d(c,c))", 1);
        covers("0(1*)", "a", 1);
        covers("0(1*)", "a(b,c)", 1);
        covers("0(1*,b)", "a", 0);
        covers("0(1*,b)", "a(b)", 1);
        covers("m(0(1*),0(b))", "m(a,a(b))", 1);
        covers("m(0(1*),0(b))", "m(b,a(b))", 0);
    }

    private static void sequenceHoles() {
        covers("a(0*)", "a", 1);
        covers("a(0*)", "a(b,c,d,e,f,g,h,i)", 1);
        covers("a(0*)", "b", 0);
        covers("a(b,0*,c)", "a(b,c)", 1);
        covers("a(b,0*,c)", "a(b,d,d,c)", 1);
        covers("a(b,0*,c)", "a(b)", 0);
        covers("a(b,0*,b)", "a(b)", 0);
        covers("a(b,0*,c)", "a(c,c)", 0);
        covers("a(b,0*,c)", "a(b,b)", 0);
        covers("a(b(0*),0*)", "a(b(c,d),c,d)", 1);
        covers("a(b(0*),0*)", "a(b(c,d),c)", 0);
        covers("a(b(0*),0*)", "a(b(c),d)", 0);
        covers("a(b(0*),0*)", "a(b(c(d)),c,d)", 0);
        covers("a(b(0*),0*)", "a(b)", 1);
        covers("a(b(0*),1*)", "a(b(c),d)", 1);
        covers("a(1,0*,1)", "a(b,b)", 1);
        covers("a(1,0*,1)", "a(b,c,b)", 1);
        covers("a(1,0*,1)", "a(b,c,d)", 0);
        covers("a(b,b,b,b,0*,b,b,b)", "a(b,b,b,b,b,b,b)", 1);
        covers("a(b,b,b,b,0*,b,b,b)", "a(b,b,b,b,b,b)", 0);
    }

    private static void holesOfTheTerm() {
        covers("a(0)", "a(5)", 1);
        covers("5", "5", 1);
        covers("a", "5", 0);
        covers("a(0,1)", "a(5,5)", 1);
        covers("a(0,0)", "a(5,6)", 0);
        covers("a(0,0)", "a(5(b),6)", 0);
        covers("a(0(b))", "a(5(b))", 1);
        covers("a(0(b),0(c))", "a(5(b),5(c))", 1);
        covers("a(0(b),0(c))", "a(5(b),6(c))", 0);
        covers("a(0(b),0(c))", "a(f(b),5(c))", 0);
        covers("a(b(c))", "a(0(c))", 0);
        // a head hole is filled by a symbol or a head hole, not by a hole that has no arguments
        covers("0(1*)", "5", 0);
        covers("0(1*)", "5(b)", 1);
        covers("a(0)", "a(5*)", 0);
        covers("a(0,1)", "a(b,5*)", 0);
        covers("a(0,1*)", "a(b,5*)", 1);
        covers("a(0,1*)", "a(5*,b)", 0);
        covers("a(1*)", "a(5*)", 1);
        covers("a(1*)", "a(b,5*,c)", 1);
        covers("a(1*,b)", "a(5*,b)", 1);
        covers("a(1*,b)", "a(b,5*)", 0);
        covers("a(0(1*))", "a(5*)", 0);
        covers("c(a(1*),b(1*))", "c(a(5*),b(6*))", 0);
        covers("c(a(1*),b(1*))", "c(a(5*),b(5*))", 1);
        // the same number, but a hole of the pattern is not the hole of the term
        covers("a(0,1)", "a(1,0)", 1);
        covers("a(0,b(0))", "a(b(1),b(b(1)))", 1);
    }
}
