/** Promise 5: fault. */
public final class Promise05FaultTest {
    public static void main(String[] args) {
        Check check = new Check();
        LeastPatterns x = new LeastPatterns();
        check.due("fault at first", x.fault(), LeastPatterns.NONE);
        x.put(8);
        check.due("fault after a bad register", x.fault(), LeastPatterns.NONE);
        x.put(0);
        check.due("fault 1", x.fault(), 1);
        x.put(-1);
        check.due("fault after a bad register", x.fault(), 1);
        Check.putText(x, 0, "a(b,b,b,b,b,b,b,b,b)");
        check.due("fault 2", x.fault(), 2);
        Check.putText(x, 0, "a(a(a(a(a(a(a(a(a))))))))");
        check.due("fault 3", x.fault(), 3);
        Check.putText(x, 0, "0(0)");
        check.due("fault 4", x.fault(), 4);
        x.set(2, 1);
        Check.putText(x, 0, "a(0*,a(1*))");
        check.due("fault 5", x.fault(), 5);
        x.undo();
        x.clear();
        x.type('a');
        check.due("fault after other calls", x.fault(), 5);
        check.due("fault again", x.fault(), 5);
        x.put(1);
        check.due("fault after a term", x.fault(), LeastPatterns.NONE);
        x.type('a');
        x.put(1);
        check.due("fault", x.fault(), 1);
        x.undo();
        check.due("fault after undo", x.fault(), 1);
        check.end();
    }
}
