/** Promise 2: type. */
public final class Promise02TypeTest {
    public static void main(String[] args) {
        Check check = new Check();
        LeastPatterns x = new LeastPatterns();
        int[] outside = {32, 127, 0, -1, 128, 256 + 'a', Integer.MIN_VALUE, Integer.MAX_VALUE};
        for (int c : outside) {
            check.due("type(" + c + ")", x.type(c), LeastPatterns.BAD);
        }
        check.due("bytes", x.told(6), 0);
        check.due("type(33)", x.type(33), 1);
        check.due("type(126)", x.type(126), 2);
        check.due("bytes", x.told(6), 2);
        for (int n = 3; n <= 80; n++) {
            check.due("type", x.type(33 + n), n);
        }
        check.due("type into a full buffer", x.type('a'), LeastPatterns.FULL);
        check.due("type a bad byte into a full buffer", x.type(32), LeastPatterns.BAD);
        check.due("bytes", x.told(6), 80);
        check.due("states", x.told(7), 0);
        x.clear();
        check.due("type", x.type('b'), 1);
        check.due("put", x.put(0), 1);
        check.due("type behind a term", x.type('('), 2);
        x.type('c');
        x.type(')');
        check.due("put", x.put(1), 2);
        check.due("terms", Check.showAll(x), "b b(c) - - - - - -");
        check.end();
    }
}
