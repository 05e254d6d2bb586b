/** Promise 9: size. */
public final class Promise09SizeTest {
    private static final Check CHECK = new Check();

    private static void sizes(String text, int... due) {
        LeastPatterns x = Check.with("", "", "", "", "", "", "", text);
        for (int what = 0; what <= 4; what++) {
            CHECK.due("size " + what + " of " + text, x.size(7, what), due[what]);
        }
    }

    public static void main(String[] args) {
        sizes("a", 1, 1, 0, 0, 0);
        sizes("9", 1, 0, 1, 0, 9);
        sizes("0", 1, 0, 1, 0, 0);
        sizes("a(b,c(d))", 4, 4, 0, 2, 0);
        sizes("a(3,3,b(3))", 5, 2, 1, 2, 3);
        sizes("2(7*,2(7*,1),b)", 6, 1, 3, 2, 10);
        sizes("a(0,1,2,3(4,5,6*),7(8),9)", 11, 1, 10, 2, 45);
        sizes("a(a(a(a(a(a(a(b)))))))", 8, 8, 0, 7, 0);
        sizes("a(b(c(d)),e)", 5, 5, 0, 3, 0);
        sizes("a(b(c,c,c,c,c,c,c),b(c,c,c,c,c,c,c),b(c,c,c,c,c,c,c),b(c,c,c,c,c,c))", 32, 32, 0, 2, 0);
        LeastPatterns x = Check.with("a");
        for (int what = 0; what <= 4; what++) {
            int property = what;
            CHECK.badRegister("size", r -> x.size(r, property));
            CHECK.due("empty", x.size(1, what), LeastPatterns.STATE);
        }
        CHECK.due("what -1", x.size(0, -1), LeastPatterns.BAD);
        CHECK.due("what 5", x.size(0, 5), LeastPatterns.BAD);
        CHECK.due("what 5, empty", x.size(1, 5), LeastPatterns.BAD);
        CHECK.end();
    }
}
