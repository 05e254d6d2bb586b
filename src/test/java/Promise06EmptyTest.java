/** Promise 6: empty. */
public final class Promise06EmptyTest {
    public static void main(String[] args) {
        Check check = new Check();
        LeastPatterns x = Check.with("a", "a(b,c)", "", "", "", "", "", "0(1*)");
        check.badRegister("empty", x::empty);
        check.due("empty(2)", x.empty(2), LeastPatterns.STATE);
        check.due("states", x.told(7), 3);
        check.due("empty(1)", x.empty(1), 3);
        check.due("states", x.told(7), 4);
        check.due("empty(1) again", x.empty(1), LeastPatterns.STATE);
        check.due("states", x.told(7), 4);
        check.due("registers", Check.showAll(x), "a - - - - - - 0(1*)");
        check.due("empty(7)", x.empty(7), 2);
        check.due("empty(0)", x.empty(0), 1);
        check.due("held", x.told(4), 0);
        x.undo();
        x.undo();
        x.undo();
        check.due("registers", Check.showAll(x), "a a(b,c) - - - - - 0(1*)");
        check.end();
    }
}
