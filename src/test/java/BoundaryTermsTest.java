/** TERMS: the smallest and the largest terms, nodes, holes and depths, and the eight registers. */
public final class BoundaryTermsTest {
    private static final Check CHECK = new Check();
    private static final int NONE = LeastPatterns.NONE;
    private static final String ROW = "b(c,c,c,c,c,c,c)";
    private static final String NODES_32 = "a(" + ROW + "," + ROW + "," + ROW + ",b(c,c,c,c,c,m))";

    public static void main(String[] args) {
        arguments();
        symbols();
        holes();
        sorts();
        sizes();
        numbersOfHoles();
        depths();
        indices();
        registers();
        CHECK.end();
    }

    private static void arguments() {
        CHECK.sentence("Promise 8: node", "A term is a node with 0 to 8 arguments; 2 for the number of its arguments");
        String[] heads = {"a", "0"};
        for (String head : heads) {
            for (int n = 0; n <= 8; n++) {
                String row = n == 0 ? "" : "(" + "b,".repeat(n - 1) + "b)";
                LeastPatterns x = Check.with("", head + row);
                CHECK.due("arguments of " + head + row, x.node(1, 0, 2), n);
                CHECK.due("nodes of " + head + row, x.size(1, 0), n + 1);
                CHECK.due("arguments of the last node", x.node(1, n, 2), 0);
                CHECK.due("behind the last argument", x.node(1, n + 1, 2), NONE);
            }
            CHECK.due("nine arguments", texted(head + "(b,b,b,b,b,b,b,b,b)").put(0), -28);
        }
    }

    private static LeastPatterns texted(String text) {
        LeastPatterns x = new LeastPatterns();
        Check.typeText(x, text);
        return x;
    }

    private static void symbols() {
        CHECK.sentence("Promise 8: node", "a symbol, a to m (the numbers 0 to 12)");
        for (int n = 0; n <= 12; n++) {
            LeastPatterns x = Check.with((char) ('a' + n) + "(" + (char) ('a' + n) + ")");
            for (int i = 0; i <= 1; i++) {
                CHECK.due("the sort", x.node(0, i, 0), 0);
                CHECK.due("the number", x.node(0, i, 1), n);
            }
        }
        CHECK.due("before a", texted("`").put(0), -10);
        CHECK.due("behind m", texted("n").put(0), -10);
    }

    private static void holes() {
        CHECK.sentence("Promise 8: node", "or a hole, 0 to 9");
        for (int n = 0; n <= 9; n++) {
            String[] texts = {"a(#)", "a(#(b))", "a(#*)"};
            for (int sort = 1; sort <= 3; sort++) {
                LeastPatterns x = Check.with(texts[sort - 1].replace('#', (char) ('0' + n)));
                CHECK.due("the sort", x.node(0, 1, 0), sort);
                CHECK.due("the number", x.node(0, 1, 1), n);
                CHECK.due("the sum", x.size(0, 4), n);
            }
        }
        CHECK.due("before 0", texted("/").put(0), -10);
        CHECK.due("behind 9", texted(":").put(0), -10);
    }

    private static void sorts() {
        CHECK.sentence("Promise 8: node", "a term hole and a sequence hole are without arguments, a head hole has one at least");
        LeastPatterns x = Check.with("a(1,2(b),3*,4(5*),6(b,b,b,b,b,b,b,b))");
        int[] sorts = {0, 1, 2, 0, 3, 2, 3, 2};
        int[] arguments = {5, 0, 1, 0, 0, 1, 0, 8};
        for (int i = 0; i < sorts.length; i++) {
            CHECK.due("sort of node " + i, x.node(0, i, 0), sorts[i]);
            CHECK.due("arguments of node " + i, x.node(0, i, 2), arguments[i]);
        }
        CHECK.due("a head hole without arguments", texted("a(0())").put(0), -14);
        CHECK.due("a sequence hole with arguments", texted("a(0*(b))").put(0), -14);
        CHECK.due("a sequence hole is an argument, no term", texted("0*").put(0), -11);
    }

    private static void sizes() {
        CHECK.sentence("Promise 9: size", "A term has at most 32 nodes (sequence holes are counted)");
        LeastPatterns x = Check.with(NODES_32, NODES_32.replace("m", "0*"), NODES_32.replace("m", "0"), "a", "0");
        int[][] due = {{32, 32, 0, 2, 0}, {32, 31, 1, 2, 0}, {32, 31, 1, 2, 0}, {1, 1, 0, 0, 0}, {1, 0, 1, 0, 0}};
        for (int r = 0; r < due.length; r++) {
            for (int what = 0; what <= 4; what++) {
                CHECK.due("size(" + r + ", " + what + ")", x.size(r, what), due[r][what]);
            }
            CHECK.due("all nodes", x.node(r, 0, 4), due[r][0]);
            CHECK.due("the last node", x.node(r, due[r][0] - 1, 4), 1);
            CHECK.due("behind the last node", x.node(r, due[r][0], 4), NONE);
        }
        CHECK.due("the 32nd node", x.node(0, 31, 1), 12);
        String more = NODES_32.replace("m", "c,m");
        CHECK.due("a 33rd node", texted(more).put(0), -10 - more.indexOf('m'));
    }

    private static void numbersOfHoles() {
        CHECK.sentence("Promise 9: size", "2 for the number of its different holes, 4 for the sum of their numbers");
        String[] texts = {"a", "0", "9", "a(0,0)", "a(9,9,8)", "0(1*)", "a(b(0,1,2,3,4,5,6,7),8,9)",
            "a(b(9,8,7,6,5,4),3(2*),1(0,0),1(0,9))", "a(b(1,2,3,4,5,6,7,8),9)"};
        int[] different = {0, 1, 1, 1, 2, 2, 10, 10, 9};
        int[] sums = {0, 0, 9, 0, 17, 1, 45, 45, 45};
        for (int k = 0; k < texts.length; k++) {
            LeastPatterns x = Check.with(texts[k]);
            CHECK.due("holes of " + texts[k], x.size(0, 2), different[k]);
            CHECK.due("sum of " + texts[k], x.size(0, 4), sums[k]);
        }
    }

    private static void depths() {
        CHECK.sentence("Promise 9: size", "the depth of a node (0 for the first one, one more for its arguments) is at most 7");
        String[] innermost = {"b", "0", "0*", "b(c)"};
        for (String inner : innermost) {
            for (int above = 1; above <= 8; above++) {
                String text = "a(".repeat(above) + inner + ")".repeat(above);
                int depth = above + (inner.length() > 2 ? 1 : 0);
                LeastPatterns x = texted(text);
                if (depth > 7) {
                    CHECK.due("put of " + text, x.put(0), -26);
                    CHECK.due("fault of " + text, x.fault(), 3);
                    CHECK.due("size of " + text, x.size(0, 3), LeastPatterns.STATE);
                    continue;
                }
                CHECK.due("put of " + text, x.put(0), depth + 1);
                CHECK.due("depth of " + text, x.size(0, 3), depth);
                for (int i = 0; i <= depth; i++) {
                    CHECK.due("depth of node " + i, x.node(0, i, 3), i);
                    CHECK.due("nodes of node " + i, x.node(0, i, 4), depth + 1 - i);
                }
            }
        }
        LeastPatterns y = Check.with("a(b,a(a(a(a(a(a(b)))))),b)", "a(a(a(a(a(a(a(b)))))),b)", "0(1(2(3(4(5(6(7*)))))))");
        CHECK.due("the depth is that of the deepest node", y.size(0, 3), 7);
        CHECK.due("the depth is that of the deepest node", y.size(1, 3), 7);
        CHECK.due("the last argument's depth", y.node(1, 8, 3), 1);
        CHECK.due("the depth of head holes", y.size(2, 3), 7);
    }

    private static void indices() {
        CHECK.sentence("Promise 8: node", "indices 0, 1, and so on: a node, then its arguments, one after the other, each with its own");
        LeastPatterns x = Check.with("a(b(c,d(e)),f,g(h))");
        int[] spans = {8, 4, 1, 2, 1, 1, 2, 1};
        int[] depths = {0, 1, 2, 2, 3, 1, 1, 2};
        for (int i = 0; i < 8; i++) {
            CHECK.due("number of node " + i, x.node(0, i, 1), i);
            CHECK.due("depth of node " + i, x.node(0, i, 3), depths[i]);
            CHECK.due("nodes of node " + i, x.node(0, i, 4), spans[i]);
        }
    }

    private static void registers() {
        CHECK.sentence("Promise 1: a new object", "There are eight registers, 0 to 7, each of which is empty, as at first, or holds a term");
        LeastPatterns x = new LeastPatterns();
        for (int r = 0; r < 8; r++) {
            CHECK.due("empty as at first", x.size(r, 0), LeastPatterns.STATE);
            CHECK.due("registers that are not empty", x.told(4), r);
            CHECK.due("nodes", x.told(5), 32 * r);
            CHECK.due("put", Check.putText(x, r, NODES_32), 32);
        }
        CHECK.due("all registers", x.told(4), 8);
        CHECK.due("all nodes", x.told(5), 256);
        CHECK.due("covered", x.covered(0), 255);
        for (int r = 7; r >= 0; r--) {
            CHECK.due("empty", x.empty(r), 32);
            CHECK.due("it is empty", x.node(r, 0, 0), LeastPatterns.STATE);
            CHECK.due("registers that are not empty", x.told(4), r);
            CHECK.due("nodes", x.told(5), 32 * r);
        }
    }
}
