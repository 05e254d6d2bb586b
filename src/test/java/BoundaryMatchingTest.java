/** MATCHING: empty sequences, holes of the term, filling, comparing, steps, and applying up to the limits. */
public final class BoundaryMatchingTest {
    private static final Check CHECK = new Check();
    private static final int NONE = LeastPatterns.NONE;
    private static final int STATE = LeastPatterns.STATE;
    private static final int FULL = LeastPatterns.FULL;
    private static final String WHOLE = "a(b(c,c,c,c,c,c,c),b(c,c,c,c,c,c,c),b(c,c,c,c,c,c,c),b(c,c,c,c,c,c))";
    private static final String SEVEN = "a(b,c,d(e),f,g)";

    public static void main(String[] args) {
        sequences();
        headWithoutArguments();
        holesOfTheTerm();
        sameFilling();
        largest();
        filledBoundaries();
        filledFirst();
        compare();
        covered();
        leastOfSameHoles();
        leastOfTermHoles();
        leastOfHeadHoles();
        leastOfSequenceHoles();
        applySorts();
        applyLeftWithoutArguments();
        applyNodes();
        applyArguments();
        applyDepth();
        CHECK.end();
    }

    private static void covers(String p, String t, int due) {
        LeastPatterns x = Check.with(p, t);
        CHECK.due(p + " covers " + t, x.covers(0, 1), due);
        CHECK.due("each term covers itself: " + p, x.covers(0, 0), 1);
        CHECK.due("each term covers itself: " + t, x.covers(1, 1), 1);
        CHECK.same("behind covers", x, Check.with(p, t));
    }

    private static void filled(String p, String t, int hole, int... due) {
        LeastPatterns x = Check.with(p, t);
        for (int what = 0; what <= 2; what++) {
            CHECK.due(p + " with " + t + ", hole " + hole + ", " + what, x.filled(0, 1, hole, what), due[what]);
        }
        CHECK.same("behind filled", x, Check.with(p, t));
    }

    private static void sequences() {
        CHECK.sentence("Promise 13: covers", "each sequence hole by a sequence of arguments (of 0 or more)");
        for (int n = 0; n <= 8; n++) {
            String row = "b,".repeat(n);
            String t = n == 0 ? "a" : "a(" + row.substring(0, 2 * n - 1) + ")";
            covers("a(0*)", t, 1);
            covers("a(0*,b)", t, n >= 1 ? 1 : 0);
            covers("a(b,0*)", t, n >= 1 ? 1 : 0);
            covers("a(b,b,0*,b,b)", t, n >= 4 ? 1 : 0);
            covers("a(b,b,b,b,b,b,b,0*)", t, n >= 7 ? 1 : 0);
            covers("a(b,b,b,b,b,b,b,b)", t, n == 8 ? 1 : 0);
            covers("9(0*)", t, 1);
            covers("0", t, 1);
            filled("a(0*)", t, 0, n == 0 ? NONE : 1, n, n);
            filled("a(b,0*)", t, 0, n <= 1 ? NONE : 2, n == 0 ? NONE : n - 1, n == 0 ? NONE : n - 1);
        }
        covers("a(0*)", "b", 0);
        covers("a(0*)", "b(a)", 0);
        covers("a", "a(0*)", 0);
        covers("a(0)", "a", 0);
        covers("a", "a(b)", 0);
        covers("c(a(0*),b(0*))", "c(a,b)", 1);
        covers("c(a(0*),b(0*))", "c(a,b(c))", 0);
        covers("c(a(0*),b(0*))", "c(a(c),b)", 0);
        covers("c(a(0*),b(0*))", "c(a(c),b(c))", 1);
        covers("c(a(0*),b(0*))", "c(a(c),b(c,c))", 0);
        covers("c(a(0*),b(0*))", "c(a(d(c)),b(d,c))", 0);
        covers("c(a(0*),b(1*))", "c(a,b(c))", 1);
    }

    private static void headWithoutArguments() {
        CHECK.sentence("Promise 13: covers",
                "A head hole whose only argument is a sequence hole can be filled by the symbol of a node without arguments: 0(1*) covers a");
        for (int s = 0; s <= 12; s++) {
            covers("0(1*)", String.valueOf((char) ('a' + s)), 1);
        }
        filled("0(1*)", "a", 0, 0, 1, 1);
        filled("0(1*)", "a", 1, NONE, 0, 0);
        covers("0(1*,b)", "a", 0);
        covers("0(b)", "a", 0);
        covers("0(1)", "a", 0);
        covers("0(1(2*))", "a(b)", 1);
        covers("0(1(2*))", "a", 0);
        covers("c(0(1*),0(1*))", "c(a,a)", 1);
        covers("c(0(1*),0(1*))", "c(a,b)", 0);
        covers("c(0(1*),0(2*))", "c(a,a(b))", 1);
    }

    private static void holesOfTheTerm() {
        CHECK.sentence("Promise 13: covers", "a head hole can be filled by a head hole of T, but nothing else in P becomes a hole");
        covers("0(b)", "7(b)", 1);
        covers("0(1*)", "7(b)", 1);
        covers("0(1*)", "7(8*)", 1);
        filled("0(1*)", "7(8*)", 0, 0, 1, 1);
        filled("0(1*)", "7(8*)", 1, 1, 1, 1);
        covers("0(1*)", "7", 0);
        covers("a", "7", 0);
        covers("a(b)", "7(b)", 0);
        covers("c(0(b),0(b))", "c(7(b),8(b))", 0);
        covers("c(0(b),0(b))", "c(7(b),7(b))", 1);
        // head hole 0 of the term and the symbol a have the same number
        covers("c(1(b),1(b))", "c(0(b),a(b))", 0);
        covers("a(b)", "0(b)", 0);
        covers("0(b)", "0(b)", 1);
        CHECK.sentence("Promise 13: covers", "The holes of T are taken as they are, like symbols of their own");
        covers("c(0,0)", "c(7,7)", 1);
        covers("c(0,0)", "c(7,8)", 0);
        covers("c(0,1)", "c(1,0)", 1);
        covers("c(0,0)", "c(a,0)", 0);
        covers("c(0,0)", "c(1,0)", 0);
        covers("c(0,d(0))", "c(d(0),d(d(0)))", 1);
        covers("c(0,d(0))", "c(d(0),d(0))", 0);
        covers("c(a(1*),1*)", "c(a(7*),7*)", 1);
        covers("c(a(1*),1*)", "c(a(7*),8*)", 0);
        CHECK.sentence("Promise 13: covers", "A term hole is not filled by a sequence hole");
        covers("a(0)", "a(0*)", 0);
        covers("a(0)", "a(7*)", 0);
        covers("a(0,1)", "a(b,7*)", 0);
        covers("a(0,1*)", "a(7*,b)", 0);
        covers("a(1*,0)", "a(b,7*)", 0);
        covers("a(1*,0)", "a(7*,b)", 1);
        covers("a(0(1*))", "a(7*)", 0);
        covers("a(b)", "a(7*)", 0);
        covers("a(0*)", "a(7*)", 1);
        covers("a(0*)", "a(b,7*,b)", 1);
        covers("a(0)", "a(b(7*))", 1);
        covers("a", "a(7*)", 0);
        filled("a(0*)", "a(7*)", 0, 1, 1, 1);
        filled("a(0*)", "a(b(c),7*,b)", 0, 1, 4, 3);
    }

    private static void sameFilling() {
        CHECK.sentence("Promise 13: covers", "the same hole everywhere by the same");
        covers("a(0,0)", "a(b(c),b(c))", 1);
        covers("a(0,0)", "a(b(c),b(d))", 0);
        covers("a(0,0)", "a(b(c,d),b(c(d)))", 0);
        covers("a(0,0)", "a(b(c(d)),b(c,d))", 0);
        covers("a(0,0)", "a(b,b(c))", 0);
        covers("a(0,0)", "a(b(c),b)", 0);
        covers("a(0,1)", "a(b,b)", 1);
        covers("a(b(0),b(b(0)))", "a(b(c),b(b(c)))", 1);
        covers("a(b(0),b(b(0)))", "a(b(c),b(b(d)))", 0);
        covers("0(0(0(b)))", "a(a(a(b)))", 1);
        covers("0(0(0(b)))", "a(a(c(b)))", 0);
        covers("0(0(1))", "a(b(c))", 0);
        covers("0(1(1(2)))", "a(b(b(c)))", 1);
        covers("a(0,0,0,0,0,0,0,0)", "a(b,b,b,b,b,b,b,b)", 1);
        covers("a(0,0,0,0,0,0,0,0)", "a(b,b,b,b,b,b,b,c)", 0);
    }

    private static void largest() {
        CHECK.sentence("Promise 13: covers", "P covers T if it matches T: terms of 32 nodes and of depth 7");
        covers("0", WHOLE, 1);
        covers(WHOLE, WHOLE, 1);
        covers(WHOLE, WHOLE.substring(0, WHOLE.length() - 3) + "d))", 0);
        covers(WHOLE, "a", 0);
        covers("a", WHOLE, 0);
        covers("a(0,0,0,1)", WHOLE, 1);
        covers("a(0,0,0,0)", WHOLE, 0);
        filled("0", WHOLE, 0, 0, 32, 1);
        filled("a(0,0,0,1)", WHOLE, 1, 25, 7, 1);
        filled("a(b(0*),b(0*),b(0*),b(c,1*))", WHOLE, 0, 2, 7, 7);
        filled("a(b(0*),b(0*),b(0*),b(c,1*))", WHOLE, 1, 27, 5, 5);
        covers("a(a(a(a(a(a(a(0)))))))", "a(a(a(a(a(a(a(b)))))))", 1);
        covers("a(a(a(a(a(a(a(0*)))))))", "a(a(a(a(a(a(a))))))", 1);
        filled("a(a(a(a(a(a(a(0*)))))))", "a(a(a(a(a(a(a))))))", 0, NONE, 0, 0);
        filled("a(a(a(a(a(a(a(0)))))))", "a(a(a(a(a(a(a(b)))))))", 0, 7, 1, 1);
        covers("a(b(0,1,2,3,4,5),b(6,7,8,9))", "a(b(a,b,c,d,e,f),b(g,h,i,j))", 1);
        filled("a(b(0,1,2,3,4,5),b(6,7,8,9))", "a(b(a,b,c,d,e,f),b(g,h,i,j))", 9, 12, 1, 1);
    }

    private static void filledBoundaries() {
        CHECK.sentence("Promise 14: filled", "NONE if the pattern does not cover the term, if it has no such hole");
        filled("a(0)", "b(c)", 0, NONE, NONE, NONE);
        filled("a(0)", "a", 0, NONE, NONE, NONE);
        filled("a(0,0)", "a(b,c)", 0, NONE, NONE, NONE);
        filled("a(0,1,1)", "a(b,c,d)", 0, NONE, NONE, NONE);
        for (int hole = 0; hole <= 9; hole++) {
            filled("a", "a", hole, NONE, NONE, NONE);
            filled("a(5)", "a(b)", hole, hole == 5 ? 1 : NONE, hole == 5 ? 1 : NONE, hole == 5 ? 1 : NONE);
            filled("a(b)", "a(5)", hole, NONE, NONE, NONE);
        }
        filled("a(0)", "a(1)", 1, NONE, NONE, NONE);
        CHECK.sentence("Promise 14: filled", "or for 0 if the sequence is empty");
        filled("a(9*)", "a", 9, NONE, 0, 0);
        filled("a(b,9*,c)", "a(b,c)", 9, NONE, 0, 0);
        filled("a(9*,b,c)", "a(b,c)", 9, NONE, 0, 0);
        filled("a(b,c,9*)", "a(b,c)", 9, NONE, 0, 0);
        filled("a(b,9*,c)", "a(b,d,c)", 9, 2, 1, 1);
        filled("a(b,9*,c)", "a(b,d(e),c)", 9, 2, 2, 1);
        filled("a(b,9*,c)", "a(b,d(e,f),d(e),c)", 9, 2, 5, 2);
    }

    private static void filledFirst() {
        CHECK.sentence("Promise 14: filled", "the first node in the term by which it is filled first (of a head: of the node whose head it is)");
        filled("a(0,b,0)", "a(c(d),b,c(d))", 0, 1, 2, 1);
        filled("a(b(0),0)", "a(b(c),c)", 0, 2, 1, 1);
        filled("c(a(0*),b(0*))", "c(a(d),b(d))", 0, 2, 1, 1);
        filled("c(0(d),b(0(e)))", "c(a(d),b(a(e)))", 0, 1, 1, 1);
        filled("0(0(0(b)))", "a(a(a(b)))", 0, 0, 1, 1);
        filled("c(b,0(1))", "c(b,a(d(e)))", 0, 2, 1, 1);
        filled("c(b,0(1))", "c(b,a(d(e)))", 1, 3, 2, 1);
    }

    private static void compare(String p, String q, int due) {
        LeastPatterns x = Check.with(p, q);
        CHECK.due("compare " + p + " and " + q, x.compare(0, 1), due);
        CHECK.due("compare " + q + " and " + p, x.compare(1, 0), due == 1 ? 2 : due == 2 ? 1 : due);
        CHECK.due("compare with itself", x.compare(0, 0), 0);
        CHECK.same("behind compare", x, Check.with(p, q));
    }

    private static void compare() {
        CHECK.sentence("Promise 15: compare", "Returns 0 if they are alike, 1 if the first one is more general, 2 if the second one is, 3 otherwise");
        compare("a", "a", 0);
        compare("0", "9", 0);
        compare("0(1*)", "8(9*)", 0);
        compare("a(0,1)", "a(8,9)", 0);
        compare("a(0,1)", "a(0,0)", 1);
        compare("0", "a", 1);
        compare("a(0*)", "a", 1);
        compare("a(0*)", "a(0*,1)", 1);
        compare("0(1*)", "a", 1);
        compare("0(1*)", "2", 2);
        compare("a(0)", "a(0*)", 2);
        compare("a", "b", 3);
        compare("a(0,b)", "a(b,0)", 3);
        compare("a(0,0)", "a(0,b)", 3);
        compare("a(0,1*)", "a(1*,0)", 3);
        compare(WHOLE, WHOLE, 0);
        compare("0", WHOLE, 1);
    }

    private static void covered() {
        CHECK.sentence("Promise 16: covered", "the set of the registers that are not empty and whose terms it covers, its own one included, as a bit mask");
        for (int r = 0; r < 8; r++) {
            LeastPatterns x = new LeastPatterns();
            Check.putText(x, r, "a");
            CHECK.due("its own one alone", x.covered(r), 1 << r);
            Check.putText(x, (r + 1) % 8, "b");
            CHECK.due("its own one and another", x.covered(r), 1 << r);
            Check.putText(x, (r + 7) % 8, "a");
            CHECK.due("two", x.covered(r), 1 << r | 1 << (r + 7) % 8);
            Check.putText(x, r, "0");
            CHECK.due("all that are not empty", x.covered(r), 1 << r | 1 << (r + 7) % 8 | 1 << (r + 1) % 8);
        }
        LeastPatterns all = Check.with("0", "a", "b(c)", "0(1*)", "1", "c(d,e)", "2(3)", "m");
        CHECK.due("all", all.covered(0), 255);
        CHECK.due("all", all.covered(4), 255);
        CHECK.due("all but term holes", all.covered(3), 255 - 1 - 16);
    }

    private static void least(String p, String a, String b, int due) {
        LeastPatterns x = Check.with(p, a, b);
        CHECK.due(p + " for " + a + " and " + b, x.isLeast(0, 1, 2), due);
        CHECK.due(p + " for " + b + " and " + a, x.isLeast(0, 2, 1), due);
        CHECK.same("behind isLeast", x, Check.with(p, a, b));
    }

    private static void leastOfSameHoles() {
        CHECK.sentence("Promise 17: isLeast", "1 if the pattern covers both terms, and by no step still does, otherwise 0");
        least("a", "a", "a", 1);
        least("a", "a", "b", 0);
        least("a(0)", "a(b)", "b(b)", 0);
        least(WHOLE, WHOLE, WHOLE, 1);
        for (int hole = 0; hole <= 9; hole++) {
            char h = (char) ('0' + hole);
            least("d(" + h + ")", "d(a)", "d(a)", 0);
            least("d(" + h + ")", "d(a)", "d(b)", 1);
            least("d(" + h + "(a))", "d(b(a))", "d(b(a))", 0);
            least("d(" + h + "(a))", "d(b(a))", "d(c(a))", 1);
            least("d(" + h + "*)", "d", "d", 0);
            least("d(" + h + "*)", "d", "d(a)", 1);
        }
        CHECK.sentence("Promise 17: isLeast", "two different holes of the same sort become the same");
        for (int g = 0; g <= 9; g++) {
            for (int h = 0; h <= 9; h++) {
                if (g != h) {
                    least("a(" + g + "," + h + ")", "a(b,b)", "a(c,c)", 0);
                    least("a(" + g + "," + h + ")", "a(b,b)", "a(c,d)", 1);
                }
            }
        }
        least("a(0,1)", "a(b,b)", "a(c,c)", 0);
        least("a(0,1)", "a(b,b)", "a(c,d)", 1);
        least("a(0,1)", "a(b,c)", "a(c,b)", 1);
        least("a(0,9,5,7)", "a(b,c,d,b)", "a(c,d,e,c)", 0);
        least("a(0,9,5,7)", "a(b,c,d,b)", "a(c,d,e,d)", 1);
        least("c(8(m),9(m))", "c(a(m),a(m))", "c(b(m),b(m))", 0);
        least("c(8(m),9(m))", "c(a(m),a(m))", "c(b(m),d(m))", 1);
        least("c(a(8*),a(9*))", "c(a,a)", "c(a(m),a(m))", 0);
        least("c(a(8*),a(9*))", "c(a,a)", "c(a(m),a(l))", 1);
        least("c(a(8*),9)", "c(a(m),m)", "c(a,b)", 1);
        least("c(8(m),9)", "c(a(m),a)", "c(b(m),b)", 1);
        least("c(0,1)", "c(7,7)", "c(a,a)", 0);
        least("c(0(m),1(m))", "c(0(m),a(m))", "c(b(m),b(m))", 1);
    }

    private static void leastOfTermHoles() {
        CHECK.sentence("Promise 17: isLeast", "a term hole becomes a node with any symbol and 0 to 8 new term holes, all different, as arguments");
        for (int n = 0; n <= 8; n++) {
            String row = n == 0 ? "" : "(" + "b,".repeat(n - 1) + "b)";
            String other = n == 0 ? "" : "(" + "c,".repeat(n - 1) + "c)";
            least("0", "a" + row, "a" + other, 0);
            least("0", "m" + row, "m" + other, 0);
            least("0", "a" + row, "m" + other, 1);
            least("0", "a" + row, "a(" + "c,".repeat(n == 8 ? 6 : n) + "c)", 1);
            least("d(0,d)", "d(a" + row + ",d)", "d(a" + other + ",d)", 0);
        }
        least("0", "7", "7", 1);
        least("0", "7(b)", "7(b)", 1);
        least("0", "a", "7", 1);
        least("0", "a(7)", "a(b)", 0);
        least("0", "a(7*)", "a(b)", 1);
        least("0", "a(7*)", "a(7*)", 1);
        least("0", "a(b,7*)", "a(c,7*)", 1);
        least("0", "a(b(7*))", "a(c)", 0);
        // all places of a hole are changed in the same way
        least("a(0,0)", "a(b(c),b(c))", "a(b(d),b(d))", 0);
        least("a(0,0)", "a(b(c),b(c))", "a(d(d),d(d))", 1);
        CHECK.sentence("Promise 17: isLeast", "the limits of terms do not matter here");
        least("a(a(a(a(a(a(a(0)))))))", "a(a(a(a(a(a(a(b)))))))", "a(a(a(a(a(a(a(b)))))))", 0);
        least("a(b(0,1,2,3,4,5),b(6,7,8,9))", "a(b(a,b,c,d,e,f(a)),b(g,h,i,j))", "a(b(b,c,d,e,f,f(b)),b(h,i,j,k))", 0);
        least("a(b(0,1,2,3,4,5),b(6,7,8,9))", "a(b(a,b,c,d,e,f),b(g,h,i,j))", "a(b(b,c,d,e,f,g),b(h,i,j,k))", 1);
        least("a(0,b(c,c,c,c,c,c),b(c,c,c,c,c,c),b(c,c,c,c,c,c,c),0,0)",
                "a(d,b(c,c,c,c,c,c),b(c,c,c,c,c,c),b(c,c,c,c,c,c,c),d,d)",
                "a(d,b(c,c,c,c,c,c),b(c,c,c,c,c,c),b(c,c,c,c,c,c,c),d,d)", 0);
    }

    private static void leastOfHeadHoles() {
        CHECK.sentence("Promise 17: isLeast", "a head hole becomes any symbol");
        for (int s = 0; s <= 12; s++) {
            String symbol = String.valueOf((char) ('a' + s));
            least("0(b)", symbol + "(b)", symbol + "(b)", 0);
            least("0(b)", symbol + "(b)", (char) ('a' + (s + 1) % 13) + "(b)", 1);
        }
        least("0(b)", "7(b)", "7(b)", 1);
        least("0(b)", "7(b)", "a(b)", 1);
        least("0(b)", "0(b)", "a(b)", 1);
        least("c(0(b),0(d))", "c(a(b),a(d))", "c(a(b),a(d))", 0);
        least("c(0(1*),d)", "c(a,d)", "c(a(b),d)", 0);
    }

    private static void leastOfSequenceHoles() {
        CHECK.sentence("Promise 17: isLeast", "a sequence hole vanishes");
        least("a(0*)", "a", "a", 0);
        least("a(0*)", "a", "a(b)", 1);
        least("a(b,0*)", "a(b)", "a(b)", 0);
        least("a(b,0*)", "a(b)", "a(b,c)", 1);
        least("c(a(0*),b(0*))", "c(a,b)", "c(a,b)", 0);
        // also where it is a head hole's only argument: what is left is filled by symbols without arguments
        least("0(1*)", "a", "b", 0);
        least("0(1*)", "a", "b(c)", 1);
        least("0(1*)", "a(7*)", "b", 1);
        least("d(0(1*))", "d(a)", "d(b)", 0);
        least("d(0(1*),0(m))", "d(a,a(m))", "d(b,b(m))", 0);
        least("d(0(1*),1*)", "d(a)", "d(b)", 0);
        least("d(0(1*),e(1*))", "d(a,e)", "d(b,e)", 0);
        least("d(0(1*),e(1*))", "d(a,e)", "d(b(c),e(c))", 1);
        CHECK.sentence("Promise 17: isLeast", "a new term hole is put before a sequence hole, or behind it");
        least("a(0*)", "a(b)", "a(c)", 0);
        least("a(0*)", "a(b)", "a(c,d,e,f,g,h,i,j)", 0);
        least("a(0*)", "a(b,7*)", "a(c,7*)", 0);
        // a sequence of one term begins and ends with it
        least("a(0*)", "a(b)", "a(c,7*)", 0);
        least("a(0*)", "a(b)", "a(7*,c)", 0);
        least("a(0*)", "a(b,7*)", "a(7*)", 1);
        least("a(0*)", "a(7*,b)", "a(7*,c)", 0);
        least("a(0*)", "a(7*,b)", "a(c,7*)", 1);
        least("a(0*)", "a(b,7*,c)", "a(7*,d)", 0);
        least("a(0*)", "a(b,7*,c)", "a(d,7*)", 0);
        least("a(0*)", "a(7*)", "a(7*)", 1);
        least("a(0*)", "a(7*)", "a", 1);
        least("a(0*)", "a(7*)", "a(b)", 1);
        least("c(a(0*),b(0*))", "c(a(d),b(d))", "c(a(e),b(e))", 0);
        CHECK.sentence("Promise 17: isLeast", "the limits of terms do not matter here: a ninth argument of the step");
        least("a(b,b,b,b,b,b,b,0*)", "a(b,b,b,b,b,b,b,b)", "a(b,b,b,b,b,b,b,c)", 0);
        least("a(b,b,b,b,b,b,b,0*)", "a(b,b,b,b,b,b,b,b)", "a(b,b,b,b,b,b,b)", 1);
    }

    private static void apply(String left, String right, String t, String want) {
        LeastPatterns x = Check.with(left, right, t);
        CHECK.due(left + " > " + right + " of " + t, x.apply(0, 1, 2, 3), want.replaceAll("[^a-m0-9]", "").length());
        CHECK.due(left + " > " + right + " of " + t, Check.show(x, 3), want);
        CHECK.due("states", x.told(7), 4);
    }

    private static void not(String left, String right, String t, int due) {
        for (int to = 0; to < 8; to++) {
            int r = to;
            CHECK.refused(left + " > " + right + " of " + t, () -> Check.with(left, right, t, "m"), x -> x.apply(0, 1, 2, r), due);
        }
    }

    private static void applySorts() {
        CHECK.sentence("Promise 19: apply", "STATE, also if the left pattern does not cover the term");
        apply("a", "m", "a", "m");
        not("a", "m", "b", STATE);
        not("a(0,0)", "0", "a(b,c)", STATE);
        apply("a(0,0)", "0", "a(b,b)", "b");
        CHECK.sentence("Promise 19: apply", "or the right one has a hole that the left one does not have");
        not("a", "0", "a", STATE);
        not("a(0)", "c(0,1)", "a(b)", STATE);
        not("a(0)", "c(0,1(b))", "a(b)", STATE);
        not("a(0)", "c(0,1*)", "a(b)", STATE);
        not("a(0)", "c(0,d(d(d(9))))", "a(b)", STATE);
        apply("a(0,1)", "c(1)", "a(b,d)", "c(d)");
        apply("a(0,1)", "c", "a(b,d)", "c");
        for (int hole = 0; hole <= 9; hole++) {
            char h = (char) ('0' + hole);
            apply("a(" + h + ")", "c(" + h + ")", "a(b)", "c(b)");
            apply("a(" + h + "(b))", "c(" + h + "(d))", "a(b(b))", "c(b(d))");
            apply("a(" + h + "*)", "c(" + h + "*)", "a(b,b)", "c(b,b)");
            apply("a(" + h + "*)", "c(d," + h + "*)", "a", "c(d)");
        }
        CHECK.sentence("Promise 19: apply", "or has of another sort");
        String[] lefts = {"a(0)", "a(0(b))", "a(0*)"};
        String[] rights = {"a(0)", "a(0(b))", "a(0*)"};
        for (int l = 0; l < 3; l++) {
            for (int r = 0; r < 3; r++) {
                if (l == r) {
                    apply(lefts[l], rights[r], "a(b(b))", "a(b(b))");
                } else {
                    not(lefts[l], rights[r], "a(b(b))", STATE);
                }
            }
        }
    }

    private static void applyLeftWithoutArguments() {
        CHECK.sentence("Promise 19: apply", "or a head hole of the term would be left without arguments (a symbol may be)");
        apply("a(0(b),1*)", "0(1*)", "a(c(b))", "c");
        not("a(0(b),1*)", "0(1*)", "a(7(b))", STATE);
        apply("a(0(b),1*)", "0(1*)", "a(7(b),d)", "7(d)");
        apply("a(0(b),1*)", "0(1*)", "a(7(b),8*)", "7(8*)");
        apply("a(0(b),1*)", "0(1*,d)", "a(7(b))", "7(d)");
        apply("a(0(b),1*)", "0(d,1*)", "a(7(b))", "7(d)");
        not("a(0(b),1*)", "m(m,0(b),m(0(1*)))", "a(7(b))", STATE);
        apply("a(0(b),1*)", "m(m,0(b),m(0(1*)))", "a(c(b))", "m(m,c(b),m(c))");
        apply("0(1*)", "0(1*)", "a", "a");
        apply("0(1*)", "c(0(1*),1*)", "a", "c(a)");
        CHECK.sentence("Promise 19: apply", "STATE before FULL, wherever the head hole stands");
        not("a(0(b),2,1*)", "c(2,2,2,2,2,0(1*))", "a(7(b)," + SEVEN + ")", STATE);
        not("a(0(b),2,1*)", "c(0(1*),2,2,2,2,2)", "a(7(b)," + SEVEN + ")", STATE);
        not("a(0(b),2,1*)", "c(2,2,2,2,2,0(b))", "a(7(b)," + SEVEN + ")", FULL);
        not("a(0)", "b(0,0,0,0,0,1)", "a(" + SEVEN + ")", STATE);
        not("a(0)", "b(0,0,0,0,0,0)", "a(" + SEVEN + ")", FULL);
    }

    private static void applyNodes() {
        CHECK.sentence("Promise 19: apply", "FULL if it would have more than 32 nodes");
        String six = "a(b,c,d(e),f)";
        apply("a(0,1)", "b(0,0,0,0,0,1)", "a(" + six + ",a)", "b(" + (six + ",").repeat(5) + "a)");
        not("a(0,1)", "b(0,0,0,0,0,1)", "a(" + six + ",a(b))", FULL);
        not("a(0,1)", "b(0,0,0,0,0,1,1)", "a(" + six + ",a)", FULL);
        not("a(0,1)", "b(0,0,0,0,0,1,c)", "a(" + six + ",a)", FULL);
        apply("a(0)", "b(0,0,0,0)", "a(" + "b(c,c,c,c,c,c)" + ")", "b(b(c,c,c,c,c,c),b(c,c,c,c,c,c),b(c,c,c,c,c,c),b(c,c,c,c,c,c))");
        apply("0", "0", WHOLE, WHOLE);
        not("0", "a(0)", WHOLE, FULL);
        apply("a(0*)", "a(0*)", WHOLE, WHOLE);
        not("a(0*)", "a(0*,b)", WHOLE, FULL);
        not("a(0*)", "a(b,0*)", WHOLE, FULL);
        apply("a(b(1*),0*)", "a(0*,b(1*))", WHOLE, "a(b(c,c,c,c,c,c,c),b(c,c,c,c,c,c,c),b(c,c,c,c,c,c),b(c,c,c,c,c,c,c))");
        not("a(b(1*),0*)", "a(0*,b(1*),b)", WHOLE, FULL);
    }

    private static void applyArguments() {
        CHECK.sentence("Promise 19: apply", "FULL if it would have a node with more than 8 arguments");
        String eight = "a(b,b,b,b,b,b,b,b)";
        apply("a(0*)", "c(0*)", eight, "c(b,b,b,b,b,b,b,b)");
        not("a(0*)", "c(0*,b)", eight, FULL);
        not("a(0*)", "c(b,0*)", eight, FULL);
        not("a(b,0*)", "c(d,e,0*)", eight, FULL);
        apply("a(b,0*)", "c(d,0*)", eight, "c(d,b,b,b,b,b,b,b)");
        not("a(0*)", "m(c(b,0*))", eight, FULL);
        apply("1(0*)", "m(1(0*))", eight, "m(" + eight + ")");
        not("1(0*)", "1(0*,m)", eight, FULL);
        not("1(0*)", "1(0*,m)", eight.replace("a(", "7("), FULL);
        apply("a(0*)", "c(b,b,b,b,b,b,b,0*)", "a(b)", "c(b,b,b,b,b,b,b,b)");
        not("a(0*)", "c(b,b,b,b,b,b,b,0*)", "a(b,b)", FULL);
        apply("a(0*)", "c(b,b,b,b,b,b,b,0*)", "a", "c(b,b,b,b,b,b,b)");
    }

    private static void applyDepth() {
        CHECK.sentence("Promise 19: apply", "FULL if it would have a depth above 7");
        apply("a(0)", "a(a(a(0)))", "a(a(a(a(a(b)))))", "a(a(a(a(a(a(a(b)))))))");
        not("a(0)", "a(a(a(a(0))))", "a(a(a(a(a(b)))))", FULL);
        not("a(0)", "a(a(a(0)))", "a(a(a(a(a(a(b))))))", FULL);
        apply("0", "0", "a(a(a(a(a(a(a(b)))))))", "a(a(a(a(a(a(a(b)))))))");
        not("0", "a(0)", "a(a(a(a(a(a(a(b)))))))", FULL);
        not("0", "a(b,0)", "a(a(a(a(a(a(a(b)))))))", FULL);
        not("0", "a(0,b)", "a(a(a(a(a(a(a(b)))))))", FULL);
        apply("a(0*)", "a(a(0*))", "a(a(a(a(a(a(b))))))", "a(a(a(a(a(a(a(b)))))))");
        not("a(0*)", "a(a(a(0*)))", "a(a(a(a(a(a(b))))))", FULL);
        apply("a(0*)", "a(a(a(a(a(a(a(0*)))))))", "a(b)", "a(a(a(a(a(a(a(b)))))))");
        not("a(0*)", "a(a(a(a(a(a(a(0*)))))))", "a(b(c))", FULL);
        apply("a(0*)", "a(a(a(a(a(a(a(0*)))))))", "a", "a(a(a(a(a(a(a))))))");
        apply("0(1)", "0(0(0(1)))", "7(7(7(7(7(b)))))", "7(7(7(7(7(7(7(b)))))))");
        not("0(1)", "0(0(0(0(1))))", "7(7(7(7(7(b)))))", FULL);
    }
}
