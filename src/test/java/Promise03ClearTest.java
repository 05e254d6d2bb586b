/** Promise 3: clear. */
public final class Promise03ClearTest {
    public static void main(String[] args) {
        Check check = new Check();
        LeastPatterns x = Check.with("a(b,c)");
        check.due("clear", x.clear(), 6);
        check.due("bytes", x.told(6), 0);
        check.due("clear again", x.clear(), 0);
        check.due("put of nothing", x.put(1), -10);
        check.due("terms", Check.showAll(x), "a(b,c) - - - - - - -");
        check.due("states", x.told(7), 1);
        for (int n = 0; n < 80; n++) {
            x.type('a');
        }
        check.due("clear", x.clear(), 80);
        check.due("type", x.type('a'), 1);
        check.due("clear", x.clear(), 1);
        check.end();
    }
}
