/** Promise 8: node. */
public final class Promise08NodeTest {
    public static void main(String[] args) {
        Check check = new Check();
        LeastPatterns x = Check.with("", "", "", "m(3(a,9*),0,b(c(d),3(1)))");
        int[][] nodes = {
            // sort, number, arguments, depth, nodes
            {0, 12, 3, 0, 10}, {2, 3, 2, 1, 3}, {0, 0, 0, 2, 1}, {3, 9, 0, 2, 1}, {1, 0, 0, 1, 1},
            {0, 1, 2, 1, 5}, {0, 2, 1, 2, 2}, {0, 3, 0, 3, 1}, {2, 3, 1, 2, 2}, {1, 1, 0, 3, 1}};
        for (int i = 0; i < nodes.length; i++) {
            for (int what = 0; what <= 4; what++) {
                check.due("node(3, " + i + ", " + what + ")", x.node(3, i, what), nodes[i][what]);
            }
        }
        for (int what = 0; what <= 4; what++) {
            int property = what;
            check.badRegister("node", r -> x.node(r, 0, property));
            check.due("behind the last node", x.node(3, 10, what), LeastPatterns.NONE);
            check.due("far behind", x.node(3, Integer.MAX_VALUE, what), LeastPatterns.NONE);
            check.due("below", x.node(3, -1, what), LeastPatterns.BAD);
            check.due("far below", x.node(3, Integer.MIN_VALUE, what), LeastPatterns.BAD);
            check.due("empty", x.node(0, 0, what), LeastPatterns.STATE);
            check.due("empty, far behind", x.node(0, 99, what), LeastPatterns.STATE);
            check.due("empty, below", x.node(0, -1, what), LeastPatterns.BAD);
        }
        check.due("what -1", x.node(3, 0, -1), LeastPatterns.BAD);
        check.due("what 5", x.node(3, 0, 5), LeastPatterns.BAD);
        check.due("what 5, empty", x.node(0, 0, 5), LeastPatterns.BAD);
        check.due("what 5, behind", x.node(3, 99, 5), LeastPatterns.BAD);
        Check.putText(x, 0, "a(a(a(a(a(a(a(b)))))))");
        check.due("depth 7", x.node(0, 7, 3), 7);
        Check.putText(x, 0, "a(b(c,c,c,c,c,c,c),b(c,c,c,c,c,c,c),b(c,c,c,c,c,c,c),b(c,c,c,c,c,m))");
        check.due("the last node of 32", x.node(0, 31, 1), 12);
        check.due("behind 32 nodes", x.node(0, 32, 1), LeastPatterns.NONE);
        check.due("all nodes", x.node(0, 0, 4), 32);
        check.due("a row's nodes", x.node(0, 25, 4), 7);
        check.end();
    }
}
