/** Promise 22: digest. */
public final class Promise22DigestTest {
    private static long hash(long... values) {
        long h = 17369;
        for (long v : values) {
            h = 31 * h + v;
        }
        return h;
    }

    public static void main(String[] args) {
        Check check = new Check();
        LeastPatterns x = new LeastPatterns();
        check.due("of a new object", x.digest(), hash(0, 0, 0, 0, 0, 0, 0, 0, -9));
        x.type('n');
        x.put(0);
        check.due("with a fault", x.digest(), hash(0, 0, 0, 0, 0, 0, 1, 0, 1));
        x.set(2, 6);
        Check.putText(x, 5, "a(3,0(4*))");
        check.due("with a term", x.digest(), hash(0, 0, 6, 0, 1, 4, 10, 2,
                5, 4, 1, 3, 2, 7,
                0, 0, 2, 0, 4,
                1, 3, 0, 1, 1,
                2, 0, 1, 1, 2,
                3, 4, 0, 2, 1,
                32, -9));
        Check.putText(x, 1, "9");
        x.set(0, 1);
        check.due("with two terms", x.digest(), hash(1, 0, 6, 0, 2, 5, 1, 4,
                1, 1, 0, 1, 0, 9,
                1, 9, 0, 0, 1,
                34,
                5, 4, 1, 3, 2, 7,
                0, 0, 2, 0, 4,
                1, 3, 0, 1, 1,
                2, 0, 1, 1, 2,
                3, 4, 0, 2, 1,
                32, -9));
        check.due("again", x.digest(), x.digest());
        x.undo();
        x.undo();
        x.undo();
        x.undo();
        x.clear();
        x.put(9);
        check.due("nothing is left", x.digest(), hash(0, 0, 0, 0, 0, 0, 0, 0, -9));
        check.end();
    }
}
