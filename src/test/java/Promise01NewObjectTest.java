/** Promise 1: a new object. */
public final class Promise01NewObjectTest {
    public static void main(String[] args) {
        Check check = new Check();
        LeastPatterns x = new LeastPatterns();
        for (int what = 0; what <= 7; what++) {
            check.due("told(" + what + ")", x.told(what), 0);
        }
        for (int r = 0; r < 8; r++) {
            check.due("size", x.size(r, 0), LeastPatterns.STATE);
            check.due("empty", x.empty(r), LeastPatterns.STATE);
            check.due("covered", x.covered(r), LeastPatterns.STATE);
        }
        check.due("fault", x.fault(), LeastPatterns.NONE);
        check.due("undo", x.undo(), LeastPatterns.STATE);
        check.due("clear", x.clear(), 0);
        check.due("type", x.type('a'), 1);
        // one object knows nothing of another
        Check.putText(x, 3, "a(b)");
        x.set(2, 7);
        LeastPatterns y = new LeastPatterns();
        check.due("all registers", Check.showAll(y), "- - - - - - - -");
        check.due("told(2)", y.told(2), 0);
        check.due("told(6)", y.told(6), 0);
        check.due("told(7)", y.told(7), 0);
        check.due("BAD", LeastPatterns.BAD, -1);
        check.due("STATE", LeastPatterns.STATE, -2);
        check.due("FULL", LeastPatterns.FULL, -3);
        check.due("NONE", LeastPatterns.NONE, -9);
        check.end();
    }
}
