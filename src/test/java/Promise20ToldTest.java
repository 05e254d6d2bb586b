/** Promise 20: told. */
public final class Promise20ToldTest {
    private static final Check CHECK = new Check();

    private static void told(LeastPatterns x, int... due) {
        for (int what = 0; what <= 7; what++) {
            CHECK.due("told(" + what + ")", x.told(what), due[what]);
        }
    }

    public static void main(String[] args) {
        LeastPatterns x = new LeastPatterns();
        told(x, 0, 0, 0, 0, 0, 0, 0, 0);
        x.set(0, 1);
        told(x, 1, 0, 0, 0, 0, 0, 0, 1);
        x.set(1, 1);
        x.set(2, 4096);
        x.set(3, 31);
        told(x, 1, 1, 4096, 31, 0, 0, 0, 4);
        Check.putText(x, 7, "a(b,c)");
        told(x, 1, 1, 4096, 31, 1, 3, 6, 5);
        Check.putText(x, 0, "0(1*)");
        told(x, 1, 1, 4096, 31, 2, 5, 5, 6);
        Check.putText(x, 0, "b");
        told(x, 1, 1, 4096, 31, 2, 4, 1, 6);
        x.empty(7);
        told(x, 1, 1, 4096, 31, 1, 1, 1, 6);
        x.undo();
        told(x, 1, 1, 4096, 31, 2, 4, 1, 5);
        int[] outside = {-1, 8, Integer.MIN_VALUE, Integer.MAX_VALUE};
        for (int what : outside) {
            CHECK.due("told(" + what + ")", x.told(what), LeastPatterns.BAD);
        }
        String whole = "a(b(c,c,c,c,c,c,c),b(c,c,c,c,c,c,c),b(c,c,c,c,c,c,c),b(c,c,c,c,c,c))";
        for (int r = 0; r < 8; r++) {
            Check.putText(x, r, whole);
        }
        CHECK.due("all registers", x.told(4), 8);
        CHECK.due("all nodes", x.told(5), 256);
        CHECK.end();
    }
}
