/** Promise 11: joinAll. */
public final class Promise11JoinAllTest {
    public static void main(String[] args) {
        Check check = new Check();
        LeastPatterns x = Check.with("a(b,b)", "a(b,c)", "a(c,c)", "", "a(d,d)", "d");
        int states = x.told(7);
        int[] outside = {-1, 256, Integer.MIN_VALUE, Integer.MAX_VALUE};
        for (int set : outside) {
            check.due("set " + set, x.joinAll(set, 0), LeastPatterns.BAD);
        }
        check.badRegister("joinAll", r -> x.joinAll(3, r));
        check.badRegister("joinAll of none", r -> x.joinAll(0, r));
        check.due("of none", x.joinAll(0, 7), LeastPatterns.STATE);
        for (int r = 0; r < 8; r++) {
            check.due("of one", x.joinAll(1 << r, 7), LeastPatterns.STATE);
        }
        check.due("with an empty one", x.joinAll(11, 7), LeastPatterns.STATE);
        check.due("with an empty one", x.joinAll(129, 6), LeastPatterns.STATE);
        check.due("of two empty ones", x.joinAll(192, 6), LeastPatterns.STATE);
        check.due("of all", x.joinAll(255, 6), LeastPatterns.STATE);
        check.due("states", x.told(7), states);
        check.due("of two", x.joinAll(3, 7), 3);
        check.due("of two", Check.show(x, 7), "a(b,0)");
        check.due("of three", x.joinAll(7, 7), 3);
        check.due("of three", Check.show(x, 7), "a(0,1)");
        check.due("of two like ones", x.joinAll(20, 7), 3);
        check.due("of two like ones", Check.show(x, 7), "a(0,0)");
        check.due("of five", x.joinAll(55, 6), 1);
        check.due("of five", Check.show(x, 6), "0");
        check.due("the register can be one of the set", x.joinAll(21, 0), 3);
        check.due("registers", Check.showAll(x), "a(0,0) a(b,c) a(c,c) - a(d,d) d 0 a(0,0)");
        order(check);
        full(check);
        check.end();
    }

    /** The pattern of the first ones is joined with the third one, and its holes are parts then. */
    private static void order(Check check) {
        LeastPatterns x = Check.with("a(c,b)", "a(b,b,b)", "a(b)");
        x.set(1, 1);
        check.due("joinAll", x.joinAll(7, 3), 3);
        check.due("joinAll", Check.show(x, 3), "a(0*,b)");
        x = Check.with("", "a(b)", "a(b,b,b)", "", "", "", "", "a(c,b)");
        x.set(1, 1);
        check.due("joinAll", x.joinAll(134, 3), 2);
        check.due("joinAll", Check.show(x, 3), "a(0*)");
        x = Check.with("a(d,e,d)", "a(e,d,e)", "a(0,1,0)");
        check.due("joinAll", x.joinAll(7, 3), 4);
        check.due("joinAll", Check.show(x, 3), "a(0,1,0)");
    }

    private static void full(Check check) {
        LeastPatterns x = Check.with("a(b(a,b,c,d,e,f),b(g,h,i,j,k))", "a(b(b,c,d,e,f,g),b(h,i,j,k,l))", "m",
                "a(b(a,b,c,d,e,f),b(g,h,i,j,k))");
        int states = x.told(7);
        check.due("the first join is not possible", x.joinAll(7, 5), LeastPatterns.FULL);
        check.due("the second join is not possible", x.joinAll(11, 5), LeastPatterns.FULL);
        check.due("STATE comes before FULL", x.joinAll(19, 5), LeastPatterns.STATE);
        check.due("states", x.told(7), states);
        check.due("register", Check.show(x, 5), "-");
        check.due("possible", x.joinAll(13, 5), 1);
        LeastPatterns y = Check.with("a(b(a,b,c,d,e,f),b(g,h,i,j,k))", "a(b(a,b,c,d,e,f),b(g,h,i,j,k))",
                "a(b(b,c,d,e,f,g),b(h,i,j,k,l))");
        check.due("only the second join is not possible", y.joinAll(7, 5), LeastPatterns.FULL);
        check.due("the first one is possible", y.joinAll(3, 5), 14);
    }
}
