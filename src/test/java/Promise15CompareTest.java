/** Promise 15: compare. */
public final class Promise15CompareTest {
    private static final Check CHECK = new Check();

    private static void compare(String p, String q, int due, int back) {
        LeastPatterns x = Check.with(p, q);
        CHECK.due("compare " + p + " and " + q, x.compare(0, 1), due);
        CHECK.due("compare " + q + " and " + p, x.compare(1, 0), back);
        CHECK.due("compare with itself", x.compare(0, 0), 0);
        CHECK.due("states", x.told(7), 2);
    }

    public static void main(String[] args) {
        compare("a", "a", 0, 0);
        compare("0", "5", 0, 0);
        compare("a(0,1)", "a(1,0)", 0, 0);
        compare("a(0(b),1*)", "a(7(b),3*)", 0, 0);
        compare("0", "a", 1, 2);
        compare("a(0,1)", "a(2,2)", 1, 2);
        compare("0(b)", "a(b)", 1, 2);
        compare("a(0*)", "a", 1, 2);
        compare("a(0*)", "a(b)", 1, 2);
        compare("a(0*)", "a(0)", 1, 2);
        compare("a(0*)", "a(0,1*)", 1, 2);
        compare("0(1*)", "0(1)", 1, 2);
        compare("0", "0(1*)", 1, 2);
        compare("a", "b", 3, 3);
        compare("a(0,b)", "a(b,0)", 3, 3);
        compare("a(0,1*)", "a(1*,0)", 3, 3);
        compare("a(b,0)", "0(b,1)", 2, 1);
        compare("a(b,0)", "0(b,b)", 3, 3);
        compare("a(0)", "a(0,1)", 3, 3);
        compare("b(0(1*))", "b(2)", 2, 1);
        LeastPatterns x = Check.with("a(0)", "a(b)");
        CHECK.badRegister("compare", r -> x.compare(r, 1));
        CHECK.badRegister("compare", r -> x.compare(0, r));
        CHECK.badRegister("compare of an empty one", r -> x.compare(5, r));
        CHECK.due("empty", x.compare(2, 1), LeastPatterns.STATE);
        CHECK.due("empty", x.compare(0, 2), LeastPatterns.STATE);
        CHECK.due("both empty", x.compare(2, 2), LeastPatterns.STATE);
        CHECK.end();
    }
}
