/** Promise 4: put, with the texts, flattening and sorting. */
public final class Promise04PutTest {
    private static final Check CHECK = new Check();
    private static final String THREE_ROWS = "a(b(c,c,c,c,c,c,c),b(c,c,c,c,c,c,c),b(c,c,c,c,c,c,c),";

    public static void main(String[] args) {
        terms();
        faultsOfBytes();
        faultsOfSize();
        faultsOfHoles();
        whatComesFirst();
        flattening();
        tooWide();
        sorting();
        whatStays();
        CHECK.end();
    }

    private static void term(String text, int nodes) {
        LeastPatterns x = new LeastPatterns();
        CHECK.due("put of " + text, Check.putText(x, 5, text), nodes);
        CHECK.due("fault of " + text, x.fault(), LeastPatterns.NONE);
        CHECK.due("the term of " + text, Check.show(x, 5), text);
        CHECK.due("states", x.told(7), 1);
    }

    private static void fault(String text, int kind, int position) {
        faultWith(new LeastPatterns(), text, kind, position);
    }

    private static void faultWith(LeastPatterns x, String text, int kind, int position) {
        int states = x.told(7);
        String before = Check.showAll(x);
        CHECK.due("put of " + text, Check.putText(x, 5, text), -10 - position);
        CHECK.due("fault of " + text, x.fault(), kind);
        CHECK.due("registers", Check.showAll(x), before);
        CHECK.due("states", x.told(7), states);
    }

    private static void terms() {
        term("a", 1);
        term("m", 1);
        term("0", 1);
        term("9", 1);
        term("a(b)", 2);
        term("m(l(k(j(i(h(g(f)))))))", 8);
        term("a(b,c,d,e,f,g,h,i)", 9);
        term("0(1*)", 2);
        term("0(1,2(3*,4),1,2(1))", 8);
        term("a(0*,b(0*),c(d,0*,1))", 8);
        term("a(1*,b(2*),c(3*))", 6);
        term("a(0,1,2,3(4,5,6*),7(8),9)", 11);
        term(THREE_ROWS + "b(c,c,c,c,c,c))", 32);
        String longest = "a(b(c(d(e(f(g,h(i),j(k,l),m,a,b,c,d),e(f(g),h(i))),j),k(l)),m(a)),b(c),d(e(0*)))";
        CHECK.due("the longest text's length", longest.length(), 80);
        term(longest, 32);
    }

    private static void faultsOfBytes() {
        fault("", 1, 0);
        fault("n", 1, 0);
        fault("A", 1, 0);
        fault("!", 1, 0);
        fault("~", 1, 0);
        fault("*", 1, 0);
        fault(",", 1, 0);
        fault("(a)", 1, 0);
        fault(")", 1, 0);
        fault("ab", 1, 1);
        fault("a)", 1, 1);
        fault("a,b", 1, 1);
        fault("a*", 1, 1);
        fault("0*", 1, 1);
        fault("01", 1, 1);
        fault("a(", 1, 2);
        fault("a()", 1, 2);
        fault("a(,b)", 1, 2);
        fault("a(b", 1, 3);
        fault("a(b*)", 1, 3);
        fault("a(b,", 1, 4);
        fault("a(b,)", 1, 4);
        fault("a(b))", 1, 4);
        fault("a(b)c", 1, 4);
        fault("a(b)(c)", 1, 4);
        fault("a(0*", 1, 4);
        fault("a(0*(b))", 1, 4);
        fault("a(0**)", 1, 4);
        fault("a(0*b)", 1, 4);
        fault("a(b(c)", 1, 6);
        fault("0()", 1, 2);
        fault(Check.times("a(", 40), 3, 16);
        fault("a(b,c" + Check.times("c", 75), 1, 5);
    }

    private static void faultsOfSize() {
        fault("a(b,b,b,b,b,b,b,b,b)", 2, 18);
        fault("c(a(b,b,b,b,b,b,b,0*,d(e)))", 2, 21);
        fault("0(b,b,b,b,b,b,b,1,2)", 2, 18);
        fault(THREE_ROWS + "b(c,c,c,c,c,c,c))", 3, 67);
        fault(THREE_ROWS + "b(c,c,c,c,c,c),c)", 3, 68);
        fault(THREE_ROWS + "b(c,c,c,c,c,c,0*))", 3, 67);
        fault("a(a(a(a(a(a(a(a(b))))))))", 3, 16);
        fault("a(a(a(a(a(a(a(b,0(c))))))))", 3, 18);
    }

    private static void faultsOfHoles() {
        fault("0(0)", 4, 2);
        fault("0(0*)", 4, 2);
        fault("a(0,0*)", 4, 4);
        fault("a(0,0(b))", 4, 4);
        fault("a(0(b),0)", 4, 7);
        fault("a(0(b),0*)", 4, 7);
        fault("a(0*,b(0))", 4, 7);
        fault("a(0*,0*)", 4, 5);
        fault("a(0*,b,1*)", 4, 7);
        fault("a(b(1*,c),0*,d(e,2*),2*)", 4, 21);
        // the byte behind the digit is looked at, but the fault at the digit is the first one
        fault("a(0(b),0", 4, 7);
        fault("a(0(b),0x", 4, 7);
        fault("a(0,0(", 4, 4);
        fault("a(0*,1*", 4, 5);
    }

    private static void whatComesFirst() {
        String nodes = "a(b(c,c,c,c,c,c,c,c),b(c,c,c,c,c,c,c,c),b(c,c,c,c,c,c,c),c,c,c,c,c";
        fault(nodes + ",c)", 2, nodes.length() + 1);
        fault(nodes + ",x)", 1, nodes.length() + 1);
        fault(nodes, 1, nodes.length());
        fault("a(1*,b,b,b,b,b,b,b,2*)", 2, 19);
        fault("1(b,b,b,b,b,b,b,b,1)", 2, 18);
        fault("a(b,b,b,b,b,b,b,b,n)", 1, 18);
        fault("a(b,b,b,b,b,b,b,b,)", 1, 18);
        fault("a(b,b,b,b,b,b,b,b,", 1, 18);
        fault("0(a(a(a(a(a(a(a(0))))))))", 3, 16);
        fault("a(a(a(a(a(a(a(a()))))))))", 1, 16);
        fault("a(a(a(a(a(a(a(a(x", 1, 16);
        // a fault that is read earlier comes before a later one of any kind
        fault("0(0,a(", 4, 2);
    }

    private static void flat(int mask, int sorted, String text, String want) {
        LeastPatterns x = new LeastPatterns();
        x.set(2, mask);
        x.set(3, sorted);
        int answer = Check.putText(x, 0, text);
        CHECK.due("the term of " + text, Check.show(x, 0), want);
        CHECK.due("put of " + text, answer, x.size(0, 0));
        CHECK.due("fault of " + text, x.fault(), LeastPatterns.NONE);
    }

    private static void flattening() {
        flat(1, 0, "a(a(b))", "a(b)");
        flat(1, 0, "a(a)", "a(a)");
        flat(1, 0, "a(b,a(c,d),e)", "a(b,c,d,e)");
        flat(1, 0, "a(a(a(a(b,c)),a,a(a)))", "a(b,c,a,a)");
        flat(1, 0, "a(b(a(c)),a(b(a(a(d)))))", "a(b(a(c)),b(a(d)))");
        flat(2, 0, "a(a(b(b(a))))", "a(a(b(a)))");
        flat(3, 0, "a(a(b(b(a))))", "a(b(a))");
        flat(3, 0, "a(b(a(b(c))))", "a(b(a(b(c))))");
        flat(0, 0, "a(a(b))", "a(a(b))");
        flat(1 << 12, 0, "m(m(m(0*)),a)", "m(0*,a)");
        flat(8191, 0, "0(0(a),1)", "0(0(a),1)");
        flat(1, 0, "a(a(0*),b(a(1*)))", "a(0*,b(a(1*)))");
        flat(1, 0, "a(a(b,b,b,b),a(b,b,b,b))", "a(b,b,b,b,b,b,b,b)");
        flat(1, 0, "0(a(a(b)))", "0(a(b))");
    }

    private static void tooWide() {
        LeastPatterns x = Check.with("", "", "", "", "", "b(c)");
        x.set(2, 1);
        faultWith(x, "a(a(b,b,b,b),a(b,b,b,b,b))", 5, 26);
        faultWith(x, "a(b,b,b,b,b,b,b,a(b,b))", 5, 23);
        faultWith(x, "a(a(0*),a(1*))", 5, 14);
        faultWith(x, "a(0*,a(a(0*)))", 5, 14);
        faultWith(x, "c(d(a(a(0*),a(0*))))", 5, 20);
        faultWith(x, "a(a(0*),a(1*)", 1, 13);
    }

    private static void sorting() {
        flat(0, 1, "a(c,b)", "a(b,c)");
        flat(0, 1, "b(c,a)", "b(c,a)");
        flat(0, 1, "a(d(e),c,b(b))", "a(c,b(b),d(e))");
        flat(0, 1, "a(0,b,9,m)", "a(b,m,0,9)");
        flat(0, 1, "a(2(b),c(b),1(c),1(b))", "a(c(b),1(b),1(c),2(b))");
        flat(0, 1, "a(b(0(c)),b(1*),b(1*),b(2),b(c))", "a(b(c),b(2),b(1*),b(1*),b(0(c)))");
        // of the same number of nodes: at the first difference the number of arguments tells last
        flat(0, 1, "a(b(c(d)),b(c,d))", "a(b(c(d)),b(c,d))");
        flat(0, 1, "a(b(c,d),b(c(d)))", "a(b(c(d)),b(c,d))");
        flat(0, 1, "a(c(b,b),b(c(c)))", "a(b(c(c)),c(b,b))");
        flat(0, 1, "a(c,b,0*)", "a(c,b,0*)");
        flat(0, 1, "a(0*,c,b)", "a(0*,c,b)");
        flat(0, 1, "a(d,0*,c,b)", "a(d,0*,c,b)");
        flat(0, 1, "a(b(1*),a(d,c,0*),a(d,c))", "a(b(1*),a(c,d),a(d,c,0*))");
        flat(0, 1, "0(c,b,a(c,b))", "0(c,b,a(b,c))");
        // inner nodes come first: sorted, the second argument is the smaller one
        flat(0, 3, "a(b(d,e),b(e,c))", "a(b(c,e),b(d,e))");
        flat(0, 1, "a(b(d,e),b(e,c))", "a(b(d,e),b(e,c))");
        flat(1, 1, "a(d,a(c,a(b)),a)", "a(a,b,c,d)");
        flat(0, 4096, "m(b,a)", "m(a,b)");
        flat(0, 1, "a(i,h,g,f,e,d,c,b)", "a(b,c,d,e,f,g,h,i)");
    }

    private static void whatStays() {
        LeastPatterns x = new LeastPatterns();
        Check.typeText(x, "a(b)");
        CHECK.badRegister("put", x::put);
        CHECK.due("fault", x.fault(), LeastPatterns.NONE);
        CHECK.due("states", x.told(7), 0);
        for (int r = 0; r < 8; r++) {
            CHECK.due("put(" + r + ")", x.put(r), 2);
        }
        CHECK.due("bytes", x.told(6), 4);
        CHECK.due("registers", Check.showAll(x), "a(b) a(b) a(b) a(b) a(b) a(b) a(b) a(b)");
        CHECK.due("put into a register that is not empty", Check.putText(x, 7, "c"), 1);
        CHECK.due("register", Check.show(x, 7), "c");
        // settings tell how a text is put, and change no term afterwards
        Check.putText(x, 6, "a(a(c),b)");
        x.set(2, 1);
        x.set(3, 1);
        CHECK.due("register", Check.show(x, 6), "a(a(c),b)");
    }
}
