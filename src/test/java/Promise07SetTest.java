/** Promise 7: set. */
public final class Promise07SetTest {
    public static void main(String[] args) {
        Check check = new Check();
        LeastPatterns x = new LeastPatterns();
        int[] most = {1, 1, 8191, 8191};
        for (int what = 0; what < 4; what++) {
            check.due("below", x.set(what, -1), LeastPatterns.BAD);
            check.due("above", x.set(what, most[what] + 1), LeastPatterns.BAD);
            check.due("far below", x.set(what, Integer.MIN_VALUE), LeastPatterns.BAD);
            check.due("far above", x.set(what, Integer.MAX_VALUE), LeastPatterns.BAD);
        }
        check.due("set(-1, 0)", x.set(-1, 0), LeastPatterns.BAD);
        check.due("set(4, 0)", x.set(4, 0), LeastPatterns.BAD);
        check.due("states", x.told(7), 0);
        for (int what = 0; what < 4; what++) {
            check.due("set", x.set(what, most[what]), 0);
            check.due("told", x.told(what), most[what]);
        }
        check.due("states", x.told(7), 4);
        check.due("set(2, 5)", x.set(2, 5), 8191);
        check.due("set(2, 5) again", x.set(2, 5), 5);
        check.due("states", x.told(7), 6);
        check.due("set(3, 0)", x.set(3, 0), 8191);
        check.due("set(0, 0)", x.set(0, 0), 1);
        check.due("told(0)", x.told(0), 0);
        check.due("told(1)", x.told(1), 1);
        check.due("told(2)", x.told(2), 5);
        check.due("told(3)", x.told(3), 0);
        check.end();
    }
}
