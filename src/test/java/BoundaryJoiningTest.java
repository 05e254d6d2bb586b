/** JOINING: ten holes and one more, 32 nodes and one more, depth 7, even arguments, alignment, equal pairs. */
public final class BoundaryJoiningTest {
    private static final Check CHECK = new Check();
    private static final int NONE = LeastPatterns.NONE;
    private static final int FULL = LeastPatterns.FULL;
    private static final String ROW = "d(b(c),b(c),b,b)";
    private static final String OTHER_ROW = "d(b,b,b(c),b(c))";
    private static final String JOINT_ROW = "d(b(0*),b(0*),b(1*),b(1*))";

    public static void main(String[] args) {
        evenArguments();
        alignment();
        firstOnes();
        lastOnes();
        unlikeHeads();
        otherwise();
        equalPairs();
        orderOfHoles();
        tenTermHoles();
        tenHolesOfAllSorts();
        tooManyNodes();
        depth();
        holesOfTheTerms();
        severalTerms();
        severalTermsFull();
        originBoundaries();
        originOfWholes();
        learnTable();
        learnFull();
        CHECK.end();
    }

    private static LeastPatterns of(int heads, int align, String t, String u) {
        LeastPatterns x = Check.with(t, u, "m");
        x.set(0, heads);
        x.set(1, align);
        return x;
    }

    private static void join(int heads, int align, String t, String u, String want) {
        LeastPatterns x = of(heads, align, t, u);
        CHECK.due("join of " + t + " and " + u, x.join(0, 1, 2), nodes(want));
        CHECK.due("the join of " + t + " and " + u, Check.show(x, 2), want);
        CHECK.due("states", x.told(7), 6);
        CHECK.due("it covers the first", x.covers(2, 0), 1);
        CHECK.due("it covers the second", x.covers(2, 1), 1);
        CHECK.due("the first stays", Check.show(x, 0), t);
        CHECK.due("the second stays", Check.show(x, 1), u);
    }

    /** How many nodes a text has: each has a letter or a digit. */
    private static int nodes(String text) {
        return text.replaceAll("[^a-m0-9]", "").length();
    }

    private static void full(int heads, int align, String t, String u) {
        CHECK.refused("join of " + t + " and " + u, () -> of(heads, align, t, u), x -> x.join(0, 1, 2), FULL);
        CHECK.refused("join into itself", () -> of(heads, align, t, u), x -> x.join(0, 1, 0), FULL);
        for (int what = 0; what <= 3; what++) {
            int part = what;
            CHECK.refused("origin", () -> of(heads, align, t, u), x -> x.origin(0, 1, 0, part), FULL);
            CHECK.refused("origin", () -> of(heads, align, t, u), x -> x.origin(0, 1, 9, part), FULL);
        }
    }

    private static void origin(LeastPatterns x, int a, int b, int hole, int... due) {
        for (int what = 0; what <= 3; what++) {
            CHECK.due("origin(" + a + ", " + b + ", " + hole + ", " + what + ")", x.origin(a, b, hole, what), due[what]);
        }
    }

    private static void evenArguments() {
        CHECK.sentence("Promise 10: join", "even if both terms have equally many of them, and neither has a sequence hole among them");
        for (int n = 0; n <= 8; n++) {
            for (int m = 0; m <= 8; m++) {
                String t = "a" + (n == 0 ? "" : "(" + "b,".repeat(n - 1) + "b)");
                String u = "a" + (m == 0 ? "" : "(" + "c,".repeat(m - 1) + "c)");
                join(0, 0, t, u, n != m ? "0" : n == 0 ? "a" : t.replace('b', '0'));
                join(0, 1, t, u, n != m ? "a(0*)" : n == 0 ? "a" : t.replace('b', '0'));
            }
        }
        join(0, 0, "a(b,0*)", "a(b,c)", "a(b,0*)");
        join(0, 0, "a(b,c)", "a(b,0*)", "a(b,0*)");
        join(0, 0, "a(b,0*)", "a(b,0*)", "a(b,0*)");
        join(0, 0, "a(b,0*)", "a(0*,b)", "a(0*)");
        // one deeper inside does not make arguments uneven
        join(0, 0, "a(b,b(0*))", "a(c,b(0*))", "a(0,b(1*))");
        join(0, 0, "a(c(0*),b)", "a(c(d),b,b)", "0");
    }

    private static void alignment() {
        CHECK.sentence("Promise 10: join", "setting 1 is 1 or one of them has a sequence hole among its arguments");
        join(0, 0, "a(b)", "a", "0");
        join(0, 1, "a(b)", "a", "a(0*)");
        join(0, 0, "a(1*)", "a", "a(0*)");
        join(0, 0, "a", "a(1*)", "a(0*)");
        join(0, 0, "a(1*)", "a(1*)", "a(0*)");
        join(0, 0, "a(b,1*)", "a(b)", "a(b,0*)");
        join(0, 0, "a(b,1*)", "a(c(d,d),b,e)", "a(0*)");
        join(0, 0, "a(1*,c(d))", "a(c(e,e))", "a(0*,1)");
        join(0, 1, "a(1*,c(d))", "a(c(e,e))", "a(0*,c(1*))");
        join(1, 1, "a(b)", "c", "0");
        join(0, 0, "a(b,1*)", "c(b,1*)", "0");
        CHECK.sentence("Promise 10: join", "the sequences of arguments that are left in the middle of both (one of them can be empty)");
        join(0, 1, "a(b,c)", "a(b,d,c)", "a(b,0*,c)");
        join(0, 1, "a(b,d,c)", "a(b,c)", "a(b,0*,c)");
        join(0, 1, "a(b,b,b,b,b,b,b,b)", "a", "a(0*)");
        join(0, 1, "a(c,b,b,b,b,b,b,b)", "a(d,b,b,b,b,b,b)", "a(0*,b,b,b,b,b,b)");
        LeastPatterns x = of(0, 1, "a(b,c(d),e,f)", "a(b,f)");
        origin(x, 0, 1, 0, 2, 3, NONE, 0);
        origin(x, 1, 0, 0, NONE, 0, 2, 3);
        LeastPatterns y = of(0, 0, "a(b,c,4*)", "a(b,c)");
        origin(y, 0, 1, 0, 3, 1, NONE, 0);
        LeastPatterns z = of(0, 0, "a(4*,b)", "a(b)");
        origin(z, 0, 1, 0, 1, 1, NONE, 0);
        // a sequence hole among eight arguments: the pattern has eight at most, too
        join(0, 0, "a(b,b,b,b,b,b,b,1*)", "a(b,b,b,b,b,b,b,b)", "a(b,b,b,b,b,b,b,0*)");
        join(0, 0, "a(1*,b,b,b,b,b,b,b)", "a(b,b,b,b,b,b,b,b)", "a(0*,b,b,b,b,b,b,b)");
        join(0, 1, "a(b,b,b,b,b,b,b,b)", "a(b,b,b,b,b,b,b)", "a(b,b,b,b,b,b,b,0*)");
    }

    private static void firstOnes() {
        CHECK.sentence("Promise 10: join",
                "the greatest number such that the first p arguments of both have the same symbols as heads");
        join(0, 1, "a(b,c,d)", "a(b,c,e,e)", "a(b,c,0*)");
        join(0, 1, "a(b,c)", "a(b,c,d)", "a(b,c,0*)");
        join(0, 1, "a(b(c),c)", "a(b(d),c,d)", "a(b(0),c,1*)");
        join(0, 1, "a(b(c),c)", "a(b,c,d)", "a(b(0*),c,1*)");
        join(0, 1, "a(b,b)", "a(c,b,c)", "a(0*)");
        join(0, 1, "a(1,c)", "a(1,c,d)", "a(0*)");
        join(0, 1, "a(1(b),c)", "a(1(b),c,d)", "a(0*)");
        join(0, 1, "a(b,1,c,d)", "a(b,1,c)", "a(b,0*)");
        join(1, 1, "a(b(c),d)", "a(e(c),d,f)", "a(0*)");
    }

    private static void lastOnes() {
        CHECK.sentence("Promise 10: join", "the last q arguments ..., and p + q is at most the number of arguments of each");
        join(0, 1, "a(b,b)", "a(b,b,b)", "a(b,b,0*)");
        join(0, 1, "a(b,b,b)", "a(b,b)", "a(b,b,0*)");
        join(0, 1, "a(b)", "a(b,b)", "a(b,0*)");
        join(0, 1, "a(b,c)", "a(b,c,b,c)", "a(b,c,0*)");
        join(0, 1, "a(b,c,c)", "a(b,c)", "a(b,c,0*)");
        join(0, 1, "a(b,b,c)", "a(b,c)", "a(b,0*,c)");
        join(0, 1, "a(b,c,b)", "a(b,b)", "a(b,0*,b)");
        join(0, 1, "a(c,b)", "a(b)", "a(0*,b)");
        join(0, 1, "a(c,b(d),e(f))", "a(b(e),e(g))", "a(0*,b(1),e(2))");
        join(0, 1, "a(b,1)", "a(b,b,1)", "a(b,0*)");
        join(0, 1, "a(b,c,1(d))", "a(b,1(d))", "a(b,0*)");
        join(0, 0, "a(b,2*,b)", "a(b)", "a(b,0*)");
        join(0, 0, "a(b,2*,b)", "a(b,b)", "a(b,0*,b)");
        join(0, 0, "a(b,b,b,b,2*,b,b,b)", "a(b,b,b,b,b,b,b,b)", "a(b,b,b,b,0*,b,b,b)");
        join(0, 0, "a(b,b,b,b,2*,b,b,b)", "a(b,b,b,b,b)", "a(b,b,b,b,0*,b)");
        join(0, 0, "a(b,b,b,b,2*,b,b,b)", "a(b,b,b)", "a(b,b,b,0*)");
    }

    private static void unlikeHeads() {
        CHECK.sentence("Promise 10: join", "setting 0 is 1, and both have at least one argument, and their arguments are even");
        join(1, 0, "a", "b", "0");
        join(1, 0, "a(c)", "b", "0");
        join(1, 0, "a(c)", "b(c)", "0(c)");
        join(0, 0, "a(c)", "b(c)", "0");
        join(1, 0, "a(c,c,c,c,c,c,c,c)", "m(d,c,c,c,c,c,c,c)", "0(1,c,c,c,c,c,c,c)");
        join(1, 1, "a(c)", "b(c,c)", "0");
        join(1, 1, "a(c,1*)", "b(c,1*)", "0");
        join(1, 1, "a(1*)", "b(1*)", "0");
        join(1, 0, "a(c(1*))", "b(c(1*))", "0(c(1*))");
        join(1, 0, "1(c)", "b(c)", "0");
        join(1, 0, "b(c)", "1(c)", "0");
        join(1, 0, "1(c)", "2(c)", "0");
        join(1, 0, "a(b(c))", "b(a(c))", "0(1(c))");
    }

    private static void otherwise() {
        CHECK.sentence("Promise 10: join", "Otherwise: the term hole for the pair T, U");
        join(0, 0, "3", "3", "0");
        join(1, 1, "3", "3", "0");
        join(1, 1, "3", "a", "0");
        join(1, 1, "3(a)", "3(a)", "0");
        join(1, 1, "3(4*)", "3(4*)", "0");
        join(0, 0, "a(3,4(b))", "a(3,4(b))", "a(0,1)");
    }

    private static void equalPairs() {
        CHECK.sentence("Promise 10: join", "The hole for a pair is the one that the table has for an equal pair");
        join(0, 0, "a(b,b)", "a(c,c)", "a(0,0)");
        join(0, 0, "a(b,b)", "a(c,d)", "a(0,1)");
        join(0, 0, "a(c,d)", "a(b,b)", "a(0,1)");
        join(0, 0, "a(b,c)", "a(c,b)", "a(0,1)");
        join(0, 0, "a(b(d),b(d))", "a(c,c)", "a(0,0)");
        join(0, 0, "a(b(d),b(d,d))", "a(c,c)", "a(0,1)");
        join(0, 0, "a(b(c,d),b(c(d)))", "a(e,e)", "a(0,1)");
        join(0, 0, "a(e,e)", "a(b(c,d),b(c(d)))", "a(0,1)");
        join(0, 0, "a(1,1,2)", "a(b,b,b)", "a(0,0,1)");
        join(0, 0, "a(1(b),2(b),1(b))", "a(b,b,b)", "a(0,1,0)");
        join(0, 0, "a(b(1*),b(1*),b(2*))", "a(c,c,c)", "a(0,0,1)");
        join(0, 1, "a(b(c),b(c),b(d))", "a(b,b,b)", "a(b(0*),b(0*),b(1*))");
        join(0, 1, "a(b(c),b)", "a(b,b(c))", "a(b(0*),b(1*))");
        join(0, 1, "a(b(c,d),b(c(d)))", "a(b,b)", "a(b(0*),b(1*))");
        join(0, 0, "a(b(1*),b(1*))", "a(b,b)", "a(b(0*),b(0*))");
        join(1, 0, "a(b(d),b(e))", "a(c(d),c(f))", "a(0(d),0(1))");
        join(1, 0, "a(b(d),c(d))", "a(c(d),b(d))", "a(0(d),1(d))");
        CHECK.sentence("Promise 10: join", "a pair (of terms, symbols or sequences, which are told apart by their sorts)");
        join(1, 0, "a(b(d),b)", "a(c(d),c)", "a(0(d),1)");
        join(1, 0, "a(b,b(d))", "a(c,c(d))", "a(0,1(d))");
        join(0, 1, "a(b(c),c)", "a(b(d,d),d)", "a(b(0*),1)");
        join(0, 1, "a(b(c),b(c),c)", "a(b(d,e),b(d),d)", "a(b(0*),b(1),1)");
        join(1, 1, "a(b(2),b,c(b))", "a(c(2),c,c(c,c))", "a(0(1),2,c(3*))");
    }

    private static void orderOfHoles() {
        CHECK.sentence("Promise 10: join", "the smallest number that the table does not have yet; in the order of the nodes of the pattern");
        join(0, 0, "a(b(c,d),e)", "a(b(d,c),f)", "a(b(0,1),2)");
        join(1, 0, "a(b(c),c)", "d(e(f),c)", "0(1(2),c)");
        join(0, 1, "a(b(c,d),c,b(e))", "a(b(c,e),d,c,b(f))", "a(b(c,0),1*,c,b(2))");
        join(0, 1, "a(b(c),d,b(d))", "a(b(d),b(c))", "a(b(0),1*,b(2))");
        join(0, 1, "a(b(c),d,b(c))", "a(b(d),b(d))", "a(b(0),1*,b(0))");
        join(0, 0, "a(9,8,7)", "a(b,b,b)", "a(0,1,2)");
    }

    private static void tenTermHoles() {
        CHECK.sentence("Promise 10: join", "If a tenth hole has been taken, no other one can be, and the join is not possible");
        join(0, 0, "a(b(a,b,c,d,e,f),b(g,h,i))", "a(b(b,c,d,e,f,g),b(h,i,j))", "a(b(0,1,2,3,4,5),b(6,7,8))");
        String t = "a(b(a,b,c,d,e,f),b(g,h,i,j))";
        String u = "a(b(b,c,d,e,f,g),b(h,i,j,k))";
        join(0, 0, t, u, "a(b(0,1,2,3,4,5),b(6,7,8,9))");
        full(0, 0, t.replace("j)", "j,k)"), u.replace("k)", "k,l)"));
        full(0, 0, t.replace("b(a", "b(m,a"), u.replace("b(b", "b(a,b"));
        LeastPatterns x = of(0, 0, t, u);
        x.join(0, 1, 2);
        CHECK.due("ten holes", x.size(2, 2), 10);
        CHECK.due("their sum", x.size(2, 4), 45);
        origin(x, 0, 1, 9, 12, 1, 12, 1);
        CHECK.sentence("Promise 10: join", "a tenth hole has been taken: an equal pair takes no other one");
        join(0, 0, t.replace("j)", "j,j)"), u.replace("k)", "k,k)"), "a(b(0,1,2,3,4,5),b(6,7,8,9,9))");
        join(0, 0, t.replace("j)", "j,a,m)"), u.replace("k)", "k,b,m)"), "a(b(0,1,2,3,4,5),b(6,7,8,9,0,m))");
        // a pair the other way round is another one
        full(0, 0, t.replace("j)", "j,b)"), u.replace("k)", "k,a)"));
        full(0, 0, t.replace("j)", "j,k(l))"), u.replace("k)", "k,m(l))"));
    }

    private static void tenHolesOfAllSorts() {
        CHECK.sentence("Promise 10: join", "a tenth hole: holes of all sorts are counted");
        String t = "a(b(m),c(m),d(m),e(e,e),f(a,b,c,d,e))";
        String u = "a(c(m),d(m),e(m),e(e),f(b,c,d,e,f))";
        join(1, 1, t, u, "a(0(m),1(m),2(m),e(e,3*),f(4,5,6,7,8))");
        String t10 = t.replace(",e))", ",e,f))");
        String u10 = u.replace(",f))", ",f,g))");
        join(1, 1, t10, u10, "a(0(m),1(m),2(m),e(e,3*),f(4,5,6,7,8,9))");
        full(1, 1, t10.replace(",f))", ",f,g))"), u10.replace(",g))", ",g,h))"));
        full(1, 1, t10.replace(",f))", ",f),g(m))"), u10.replace(",g))", ",g),h(m))"));
        full(1, 1, t10.replace(",f))", ",f),g)"), u10.replace(",g))", ",g),g(h))"));
        join(1, 1, t10.replace(",f))", ",f),b(m),e(e,e))"), u10.replace(",g))", ",g),c(m),e(e))"),
                "a(0(m),1(m),2(m),e(e,3*),f(4,5,6,7,8,9),0(m),e(e,3*))");
        // the tenth one is a head hole, or a sequence hole
        String nine = "a(b(a,b,c,d,e,f),b(g,h,i)";
        String others = "a(b(b,c,d,e,f,g),b(h,i,j)";
        join(1, 0, nine + ",c(m))", others + ",d(m))", "a(b(0,1,2,3,4,5),b(6,7,8),9(m))");
        full(1, 0, nine + ",c(m),k)", others + ",d(m),l)");
        full(1, 0, nine + ",c(k))", others + ",d(l))");
        join(0, 1, nine + ",c(m))", others + ",c)", "a(b(0,1,2,3,4,5),b(6,7,8),c(9*))");
        full(0, 1, nine + ",c(m),k)", others + ",c,l)");
        full(0, 1, nine + ",c(m),c(k))", others + ",c,c)");
        join(0, 1, nine + ",c(m),c(m))", others + ",c,c)", "a(b(0,1,2,3,4,5),b(6,7,8),c(9*),c(9*))");
    }

    private static void tooManyNodes() {
        CHECK.sentence("Promise 10: join", "it is not possible either if the pattern had more than 32 nodes");
        String whole = "a(b(c,c,c,c,c,c,c),b(c,c,c,c,c,c,c),b(c,c,c,c,c,c,c),b(c,c,c,c,c,c))";
        join(1, 1, whole, whole, whole);
        String t = "a(" + ROW + "," + ROW + "," + ROW + ",b(c),b";
        String u = "a(" + OTHER_ROW + "," + OTHER_ROW + "," + OTHER_ROW + ",b,b(c)";
        String joint = "a(" + JOINT_ROW + "," + JOINT_ROW + "," + JOINT_ROW + ",b(0*),b(1*)";
        join(0, 1, t + ")", u + ")", joint + ")");
        CHECK.due("nodes", nodes(joint), 32);
        full(0, 1, t + ",m)", u + ",m)");
        full(0, 1, t + ",l)", u + ",m)");
        full(0, 1, t + ",b)", u + ",b)");
        full(0, 1, t + ",b(c))", u + ",b)");
        CHECK.due("terms of fewer nodes", of(0, 1, t + ",m)", u + ",m)").size(0, 0), 26);
    }

    private static void depth() {
        CHECK.sentence("Promise 10: join", "the depth of a node is at most 7: the deepest terms are joined");
        String deep = "a(a(a(a(a(a(a(#)))))))";
        join(0, 0, deep.replace("#", "b"), deep.replace("#", "c"), deep.replace("#", "0"));
        join(0, 0, deep.replace("#", "b"), deep.replace("#", "b"), deep.replace("#", "b"));
        join(0, 0, deep.replace("#", "3*"), deep.replace("#", "b"), deep.replace("#", "0*"));
        join(0, 1, deep.replace("(#)", ""), deep.replace("#", "b"), deep.replace("#", "0*"));
        join(1, 0, "b(b(b(b(b(b(b(a)))))))", deep.replace("#", "a"), "0(0(0(0(0(0(0(a)))))))");
        join(1, 0, "b(b(b(b(b(b(b(a)))))))", deep.replace("#", "b"), "0(0(0(0(0(0(0(1)))))))");
        // aligned at each depth, with the inner term among the first arguments, and among the last ones
        String inner = deep.replace("#", "b");
        join(0, 1, inner, "a(".repeat(7) + "b" + ",c)".repeat(7), "a(".repeat(7) + "b" + ",0*)".repeat(7));
        join(0, 1, "a(c,".repeat(7) + "b" + ")".repeat(7), inner, "a(0*,".repeat(7) + "b" + ")".repeat(7));
        LeastPatterns x = of(0, 0, deep.replace("#", "b"), deep.replace("#", "c"));
        x.join(0, 1, 2);
        CHECK.due("depth", x.size(2, 3), 7);
        origin(x, 0, 1, 0, 7, 1, 7, 1);
    }

    private static void holesOfTheTerms() {
        CHECK.sentence("Promise 10: join", "Holes of T and U themselves have nothing to do with those of the pattern");
        join(0, 0, "a(9,8)", "a(9,8)", "a(0,1)");
        join(0, 0, "a(1,0)", "a(1,1)", "a(0,1)");
        join(0, 0, "a(0,b)", "a(0,c)", "a(0,1)");
        join(0, 0, "a(b,0)", "a(c,0)", "a(0,1)");
        join(0, 0, "a(9*)", "a(8*)", "a(0*)");
        join(0, 0, "a(0(b),1*)", "a(0(b),1*)", "a(0*)");
        join(0, 0, "a(b(0,1,2,3,4,5),b(6,7,8,9))", "a(b(0,1,2,3,4,5),b(6,7,8,9))", "a(b(0,1,2,3,4,5),b(6,7,8,9))");
        full(0, 0, "a(b(0,1,2,3,4,5),b(6,7,8,9,a))", "a(b(0,1,2,3,4,5),b(6,7,8,9,b))");
    }

    private static void severalTerms() {
        CHECK.sentence("Promise 11: joinAll", "joining the first two, then the pattern with the third one, and so on, in ascending order");
        LeastPatterns x = Check.with("a(c,b)", "a(b,b,b)", "a(b)", "", "a(b,b,b)", "a(b)", "a(c,b)");
        x.set(1, 1);
        CHECK.due("of three", x.joinAll(7, 7), 3);
        CHECK.due("of three", Check.show(x, 7), "a(0*,b)");
        CHECK.due("of three in another order", x.joinAll(16 + 32 + 64, 7), 2);
        CHECK.due("of three in another order", Check.show(x, 7), "a(0*)");
        LeastPatterns y = new LeastPatterns();
        for (int r = 0; r < 8; r++) {
            Check.putText(y, r, "a(b,b,b,b,b,b,b,b)".replaceAll("^(a\\(" + "b,".repeat(r) + ")b", "$1c"));
        }
        CHECK.due("register 7", Check.show(y, 7), "a(b,b,b,b,b,b,b,c)");
        CHECK.due("of two", y.joinAll(3, 0), 9);
        CHECK.due("of two", Check.show(y, 0), "a(0,1,b,b,b,b,b,b)");
        y.undo();
        CHECK.due("of all eight", y.joinAll(255, 0), 9);
        CHECK.due("of all eight", Check.show(y, 0), "a(0,1,2,3,4,5,6,7)");
        y.undo();
        CHECK.due("of the first and the last", y.joinAll(129, 3), 9);
        CHECK.due("of the first and the last", Check.show(y, 3), "a(0,b,b,b,b,b,b,1)");
        CHECK.due("one state", y.told(7), 6);
        CHECK.sentence("Promise 11: joinAll", "STATE, also if there are fewer than two registers in the set");
        for (int r = 0; r < 8; r++) {
            int one = 1 << r;
            CHECK.refused("of one", () -> eight("a"), z -> z.joinAll(one, 7), LeastPatterns.STATE);
            CHECK.due("of one and another", eight("a").joinAll(one | 1 << (7 - r), 7), 1);
        }
        CHECK.refused("of none", () -> eight("a"), z -> z.joinAll(0, 7), LeastPatterns.STATE);
        CHECK.due("of all", eight("a(b)").joinAll(255, 7), 2);
    }

    private static LeastPatterns eight(String text) {
        return Check.with(text, text, text, text, text, text, text, text);
    }

    private static void severalTermsFull() {
        CHECK.sentence("Promise 11: joinAll", "FULL if one of the joins is not possible");
        String t = "a(b(a,b,c,d,e,f),b(g,h,i,j,k))";
        String u = "a(b(b,c,d,e,f,g),b(h,i,j,k,l))";
        String v = "a(b(b,c,d,e,f,g),b(h,i,j,k,k))";
        CHECK.refused("the only one", () -> Check.with(t, u), x -> x.joinAll(3, 7), FULL);
        CHECK.refused("the first one", () -> Check.with(t, u, "m"), x -> x.joinAll(7, 7), FULL);
        CHECK.refused("the last one", () -> Check.with(t, t, t, t, t, t, t, u), x -> x.joinAll(255, 7), FULL);
        CHECK.refused("the one in the middle", () -> Check.with(t, t, u, t, "m"), x -> x.joinAll(31, 7), FULL);
        CHECK.due("ten holes are possible", Check.with(t, v, t, v).joinAll(15, 7), 14);
        CHECK.due("without the middle one", Check.with(t, t, u, t).joinAll(11, 7), 14);
        CHECK.due("with another one first", Check.with("m", t, u).joinAll(7, 7), 1);
    }

    private static void originBoundaries() {
        CHECK.sentence("Promise 12: origin", "NONE if the pattern has no such hole");
        LeastPatterns x = of(0, 0, "a(b,c)", "a(d,e)");
        origin(x, 0, 1, 0, 1, 1, 1, 1);
        origin(x, 0, 1, 1, 2, 1, 2, 1);
        for (int hole = 2; hole <= 9; hole++) {
            origin(x, 0, 1, hole, NONE, NONE, NONE, NONE);
        }
        for (int hole = 0; hole <= 9; hole++) {
            origin(x, 0, 0, hole, NONE, NONE, NONE, NONE);
        }
        LeastPatterns y = of(0, 0, "a(7,8)", "a(7,b)");
        origin(y, 0, 1, 7, NONE, NONE, NONE, NONE);
        CHECK.sentence("Promise 12: origin", "or for 0 and 2 if the part is an empty sequence");
        LeastPatterns z = of(0, 1, "a", "a(b,c(d),e,f,g,h,i,j)");
        origin(z, 0, 1, 0, NONE, 0, 1, 9);
        origin(z, 1, 0, 0, 1, 9, NONE, 0);
        CHECK.sentence("Promise 12: origin", "of the parts with which the hole was taken first");
        LeastPatterns w = of(1, 1, "a(b(c),d(c),b(c),c(e,e))", "a(d(f),d(f),d(f),c(e))");
        origin(w, 0, 1, 0, 1, 1, 1, 1);
        origin(w, 0, 1, 1, 2, 1, 2, 1);
        origin(w, 0, 1, 2, 9, 1, NONE, 0);
        origin(w, 0, 1, 3, NONE, NONE, NONE, NONE);
        LeastPatterns v = of(0, 0, "c(a(b(d),e),a(b(d),e))", "c(a(f,e),a(f,e))");
        origin(v, 0, 1, 0, 2, 2, 2, 1);
        CHECK.sentence("Promise 12: origin", "Nothing changes");
        for (int hole = 0; hole <= 9; hole++) {
            LeastPatterns once = of(1, 1, "a(b(c),d(c),b(c),c(e,e))", "a(d(f),d(f),d(f),c(e))");
            once.origin(0, 1, hole, hole % 4);
            CHECK.same("behind origin", once, of(1, 1, "a(b(c),d(c),b(c),c(e,e))", "a(d(f),d(f),d(f),c(e))"));
        }
    }

    private static void originOfWholes() {
        CHECK.sentence("Promise 12: origin", "the index of the first node of the pair's first part, the number of nodes of this part (1 of a symbol)");
        String whole = "a(b(c,c,c,c,c,c,c),b(c,c,c,c,c,c,c),b(c,c,c,c,c,c,c),b(c,c,c,c,c,d))";
        LeastPatterns x = Check.with(whole, "b", whole.replace("d)", "e)"), whole.replace("a(", "d("));
        origin(x, 0, 1, 0, 0, 32, 0, 1);
        origin(x, 1, 0, 0, 0, 1, 0, 32);
        origin(x, 0, 2, 0, 31, 1, 31, 1);
        origin(x, 0, 3, 0, 0, 32, 0, 32);
        x.set(0, 1);
        origin(x, 0, 3, 0, 0, 1, 0, 1);
        origin(x, 3, 0, 0, 0, 1, 0, 1);
    }

    private static void learn(int due, String left, String right, String... texts) {
        LeastPatterns x = Check.with(texts);
        x.set(1, 1);
        CHECK.due("learn from " + String.join(" ", texts), x.learn(0, 1, 2, 3, 4, 5), due);
        CHECK.due("left of " + String.join(" ", texts), Check.show(x, 4), left);
        CHECK.due("right of " + String.join(" ", texts), Check.show(x, 5), right);
        CHECK.due("one state", x.told(7), 6);
        x.undo();
        CHECK.due("both registers are restored", Check.show(x, 4) + Check.show(x, 5), "--");
    }

    private static void learnTable() {
        CHECK.sentence("Promise 18: learn", "the terms before are joined, then, with the same table of holes, the terms after them");
        learn(1, "a(0)", "0", "a(b)", "b", "a(c)", "c");
        learn(0, "a(0)", "1", "a(b)", "c", "a(c)", "b");
        learn(1, "a(0,1)", "a(1,0)", "a(b,c)", "a(c,b)", "a(d,e)", "a(e,d)");
        learn(1, "a(0*)", "b(0*)", "a(c)", "b(c)", "a", "b");
        learn(0, "a(0*)", "b(1)", "a(c)", "b(c)", "a", "b(d)");
        learn(1, "a", "b", "a", "b", "a", "b");
        learn(0, "a", "0", "a", "b", "a", "c");
        learn(1, "0", "m", "a", "m", "b", "m");
        CHECK.sentence("Promise 18: learn", "Returns 1 if each hole of the right pattern is a hole of the left one, otherwise 0");
        learn(1, "a(b(0,1,2,3,4,5),b(6,7,8,9))", "a(b(9,8,7,6,5,4),b(3,2,1,0))", "a(b(a,b,c,d,e,f),b(g,h,i,j))",
                "a(b(j,i,h,g,f,e),b(d,c,b,a))", "a(b(b,c,d,e,f,g),b(h,i,j,k))", "a(b(k,j,i,h,g,f),b(e,d,c,b))");
        learn(0, "a(b(0,1,2,3,4,5),b(6,7,8,m))", "9", "a(b(a,b,c,d,e,f),b(g,h,i,m))", "j",
                "a(b(b,c,d,e,f,g),b(h,i,j,m))", "k");
        learn(0, "a(0)", "c(0,1)", "a(b)", "c(b,e)", "a(d)", "c(d,f)");
        LeastPatterns heads = Check.with("a(b)", "a", "c(b)", "c");
        heads.set(0, 1);
        CHECK.due("a symbol's pair is no term's pair", heads.learn(0, 1, 2, 3, 4, 5), 0);
        CHECK.due("registers", Check.showAll(heads), "a(b) a c(b) c 0(b) 1 - -");
    }

    private static void learnFull() {
        CHECK.sentence("Promise 18: learn", "FULL if one of the joins is not possible");
        String t = "a(b(a,b,c,d,e,f),b(g,h,i,j))";
        String u = "a(b(b,c,d,e,f,g),b(h,i,j,k))";
        LeastPatterns ten = Check.with(t, "c(a,j,m)", u, "c(b,k,m)");
        CHECK.due("ten holes, and the same in the right one", ten.learn(0, 1, 2, 3, 4, 5), 1);
        CHECK.due("right", Check.show(ten, 5), "c(0,9,m)");
        CHECK.refused("the right one takes an eleventh hole", () -> Check.with(t, "c(a,k)", u, "c(b,l)"),
                x -> x.learn(0, 1, 2, 3, 4, 5), FULL);
        CHECK.refused("one hole, and ten others in the right one", () -> Check.with("m(m)", t, "m(a)", u),
                x -> x.learn(0, 1, 2, 3, 0, 1), FULL);
        LeastPatterns nine = Check.with("m(a)", t, "m(b)", u);
        CHECK.due("one hole, and nine others in the right one", nine.learn(0, 1, 2, 3, 4, 5), 0);
        CHECK.due("right", Check.show(nine, 5), "a(b(0,1,2,3,4,5),b(6,7,8,9))");
        String more = t.replace("j)", "j,k)");
        CHECK.refused("the left one is not possible", () -> Check.with(more, "a", u.replace("k)", "k,l)"), "a"),
                x -> x.learn(0, 1, 2, 3, 4, 5), FULL);
        String rows = "a(" + ROW + "," + ROW + "," + ROW + ",b(c),b";
        String others = "a(" + OTHER_ROW + "," + OTHER_ROW + "," + OTHER_ROW + ",b,b(c)";
        CHECK.due("32 nodes on both sides", aligned(rows + ")", rows + ")", others + ")", others + ")")
                .learn(0, 1, 2, 3, 4, 5), 1);
        CHECK.refused("33 nodes on the right", () -> aligned(rows + ")", rows + ",m)", others + ")", others + ",m)"),
                x -> x.learn(0, 1, 2, 3, 4, 5), FULL);
        CHECK.refused("33 nodes on the left", () -> aligned(rows + ",m)", rows + ")", others + ",m)", others + ")"),
                x -> x.learn(0, 1, 2, 3, 4, 5), FULL);
        CHECK.sentence("Promise 18: learn", "right: another one than left");
        LeastPatterns same = Check.with("a(b)", "a(c)");
        CHECK.due("the registers that are read can be written", same.learn(0, 1, 1, 0, 1, 0), 0);
        CHECK.due("registers", Check.showAll(same), "a(1) a(0) - - - - - -");
    }

    private static LeastPatterns aligned(String... texts) {
        LeastPatterns x = Check.with(texts);
        x.set(1, 1);
        return x;
    }
}
