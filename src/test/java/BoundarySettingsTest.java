/** SETTINGS: their smallest and largest values, flattening up to 8 arguments and beyond, sorting of equal arguments. */
public final class BoundarySettingsTest {
    private static final Check CHECK = new Check();
    private static final int ALL = 8191;

    public static void main(String[] args) {
        values();
        flatSymbols();
        flatArguments();
        again();
        eightArguments();
        sequences();
        whereAndWhen();
        oneTextAfterAnother();
        sortedSymbols();
        sequenceAmongArguments();
        innerFirst();
        equalOnes();
        fewerNodes();
        firstDifference();
        CHECK.end();
    }

    private static LeastPatterns settings(int flat, int sorted) {
        LeastPatterns x = Check.with("m", "a(b)", "", "c(0)");
        x.set(2, flat);
        x.set(3, sorted);
        return x;
    }

    private static void put(int flat, int sorted, String text, String want) {
        LeastPatterns x = settings(flat, sorted);
        CHECK.due("put of " + text, Check.putText(x, 2, text), Check.with(want).size(0, 0));
        CHECK.due("fault of " + text, x.fault(), LeastPatterns.NONE);
        CHECK.due("the term of " + text, Check.show(x, 2), want);
        CHECK.due("the bytes stay", x.told(6), text.length());
        CHECK.due("states", x.told(7), 6);
        int nodes = x.size(2, 0);
        CHECK.due("nodes of the first node", x.node(2, 0, 4), nodes);
        for (int i = 0; i < nodes; i++) {
            int next = i + 1;
            int depth = x.node(2, i, 3);
            for (int k = x.node(2, i, 2); k > 0; k--) {
                CHECK.due("depth of node " + next, x.node(2, next, 3), depth + 1);
                next += x.node(2, next, 4);
            }
            CHECK.due("nodes of node " + i, x.node(2, i, 4), next - i);
        }
    }

    private static void fault(int flat, int sorted, String text) {
        LeastPatterns x = settings(flat, sorted);
        LeastPatterns before = settings(flat, sorted);
        Check.typeText(before, text);
        CHECK.due("put of " + text, Check.putText(x, 1, text), -10 - text.length());
        CHECK.due("fault of " + text, x.fault(), 5);
        CHECK.due("registers", Check.showAll(x), Check.showAll(before));
        for (int what = 0; what <= 7; what++) {
            CHECK.due("told(" + what + ")", x.told(what), before.told(what));
        }
        before.put(0);
        CHECK.same("behind " + text, x, before);
    }

    private static void values() {
        CHECK.sentence("Promise 7: set", "Setting 0 (0 or 1; 0 at first), setting 1 (0 or 1; 0 at first), settings 2 and 3 (0 to 8191, 0 at first)");
        int[] most = {1, 1, ALL, ALL};
        for (int what = 0; what <= 3; what++) {
            int setting = what;
            LeastPatterns x = new LeastPatterns();
            CHECK.due("at first", x.told(what), 0);
            CHECK.due("to the smallest", x.set(what, 0), 0);
            CHECK.due("to the largest", x.set(what, most[what]), 0);
            CHECK.due("told", x.told(what), most[what]);
            CHECK.due("beyond it", x.set(what, most[what] + 1), LeastPatterns.BAD);
            CHECK.due("below the smallest", x.set(what, -1), LeastPatterns.BAD);
            CHECK.due("told", x.told(what), most[what]);
            CHECK.due("states", x.told(7), 2);
            CHECK.due("the same again", x.set(what, most[what]), most[what]);
            CHECK.due("states", x.told(7), 3);
            CHECK.due("back", x.set(what, 0), most[what]);
            for (int other = 0; other <= 3; other++) {
                CHECK.due("others stay", x.told(other), 0);
            }
            CHECK.refused("beyond", () -> settings(3, 5), y -> y.set(setting, most[setting] + 1), LeastPatterns.BAD);
            CHECK.refused("below", () -> settings(3, 5), y -> y.set(setting, -1), LeastPatterns.BAD);
            CHECK.refused("setting 4", () -> settings(3, 5), y -> y.set(4, setting), LeastPatterns.BAD);
            CHECK.refused("setting -1", () -> settings(3, 5), y -> y.set(-1, setting), LeastPatterns.BAD);
        }
        for (int v = 0; v <= ALL; v += v < 16 || v > 8180 ? 1 : 89) {
            LeastPatterns x = new LeastPatterns();
            CHECK.due("set(2)", x.set(2, v), 0);
            CHECK.due("set(3)", x.set(3, ALL - v), 0);
            CHECK.due("told(2)", x.told(2), v);
            CHECK.due("told(3)", x.told(3), ALL - v);
        }
    }

    private static void flatSymbols() {
        CHECK.sentence("Promise 4: put", "setting 2 the flat symbols, as a bit mask: a (bit 0) to m (bit 12)");
        for (int s = 0; s <= 12; s++) {
            String symbol = String.valueOf((char) ('a' + s));
            String text = symbol + "(" + symbol + "(" + symbol + "))";
            String flat = symbol + "(" + symbol + ")";
            put(1 << s, 0, text, flat);
            put(ALL, 0, text, flat);
            put(ALL - (1 << s), 0, text, text);
            put(0, 0, text, text);
            put(0, 1 << s, text, text);
        }
    }

    private static void flatArguments() {
        CHECK.sentence("Promise 4: put", "an argument whose head is a flat symbol that is the head of its node, too, and which has arguments");
        put(1, 0, "a(a)", "a(a)");
        put(1, 0, "a(a(b))", "a(b)");
        put(1, 0, "a(a,a(b),a)", "a(a,b,a)");
        put(3, 0, "a(b(c))", "a(b(c))");
        put(3, 0, "b(a(c))", "b(a(c))");
        put(3, 0, "a(b(a(c)))", "a(b(a(c)))");
        put(2, 0, "a(a(b(b)))", "a(a(b(b)))");
        put(2, 0, "a(a(b(b(b))))", "a(a(b(b)))");
        put(ALL, 0, "0(0(a))", "0(0(a))");
        put(ALL, 0, "0(a(0(a)))", "0(a(0(a)))");
        put(ALL, 0, "a", "a");
        put(ALL, 0, "0", "0");
        put(1, 0, "a(b,a(c,d),e)", "a(b,c,d,e)");
        put(1, 0, "a(a(b),c,a(d))", "a(b,c,d)");
        put(1, 0, "a(a(0),a(1(b)),a(2*))", "a(0,1(b),2*)");
    }

    private static void again() {
        CHECK.sentence("Promise 4: put", "replaced by its arguments (also those that come by this), as long as there is such an argument");
        put(1, 0, "a(a(a(a(a(a(a(b)))))))", "a(b)");
        put(1, 0, "a(a(a(a(a(a(a(a)))))))", "a(a)");
        put(1, 0, "a(a(b,a(c,a(d,a(e)))),a(a(a(f),g)))", "a(b,c,d,e,f,g)");
        put(1, 0, "c(a(a(b),a(a(d))),a(b))", "c(a(b,d),a(b))");
        put(1, 0, "a(b(a(a(a(c)))),a(b(a(a(c)))))", "a(b(a(c)),b(a(c)))");
        put(ALL, 0, "a(a(b(b(a(a(c))))))", "a(b(a(c)))");
        put(3, 0, "b(b(a(a(b(b(c))))))", "b(a(b(c)))");
    }

    private static void eightArguments() {
        CHECK.sentence("Promise 4: put", "If a node has more than 8 arguments then, this is a fault of the kind 5, with the length of the text as the position");
        put(1, 0, "a(a(b,b,b,b),a(b,b,b,b))", "a(b,b,b,b,b,b,b,b)");
        fault(1, 0, "a(a(b,b,b,b,b),a(b,b,b,b))");
        put(0, 0, "a(a(b,b,b,b,b),a(b,b,b,b))", "a(a(b,b,b,b,b),a(b,b,b,b))");
        put(1, 0, "a(b,b,b,b,b,b,b,a(b))", "a(b,b,b,b,b,b,b,b)");
        fault(1, 0, "a(b,b,b,b,b,b,b,a(b,b))");
        put(1, 0, "a(a(b,b,b,b,b,b,b,b))", "a(b,b,b,b,b,b,b,b)");
        fault(1, 0, "a(a(b,b,b,b,b,b,b,b),c)");
        put(1, 0, "a(a(a(b,b,b),b,b),a(b,a(b)),b)", "a(b,b,b,b,b,b,b,b)");
        fault(1, 0, "a(a(a(b,b,b),b,b),a(b,a(b,b)),b)");
        // in a node that stays inside
        put(1, 0, "c(d,a(b,b,b,b,b,b,b,a(e)))", "c(d,a(b,b,b,b,b,b,b,e))");
        fault(1, 0, "c(d,a(b,b,b,b,b,b,b,a(e,e)))");
        fault(1, 0, "c(d,a(b,b,b,b,b,b,b,a(e,e)),e)");
        fault(1, 1, "a(a(b,b,b,b,b),a(b,b,b,b))");
        fault(ALL, ALL, "0(a(a(b,b,b,b,b),a(b,b,b,b)))");
        // the widest: 21 arguments would come
        fault(1, 0, "a(a(b,b,b,b,b,b,b),a(b,b,b,b,b,b,b),a(b,b,b,b,b,b,b))");
        // all of a text of 80 bytes
        String full = "a(a(b,b,b,b,b),a(b,b,b,b),c(d(e(f(g(h(i)))))),c(d(e(f(g(h(i)))))),c(d(e(f(g)))))";
        CHECK.due("bytes", full.length(), 80);
        fault(1, 0, full);
        // a fault of the reading comes first
        LeastPatterns x = settings(1, 0);
        CHECK.due("too early", Check.putText(x, 1, "a(a(b,b,b,b,b),a(b,b,b,b)"), -35);
        CHECK.due("fault", x.fault(), 1);
    }

    private static void sequences() {
        CHECK.sentence("Promise 4: put", "or two sequence holes among its arguments, this is a fault of the kind 5");
        put(1, 0, "a(a(0*),b)", "a(0*,b)");
        put(1, 0, "a(0*,a(b))", "a(0*,b)");
        fault(1, 0, "a(a(0*),1*)");
        fault(1, 0, "a(0*,a(1*))");
        fault(1, 0, "a(0*,a(0*))");
        fault(1, 0, "a(a(0*),a(1*))");
        fault(1, 0, "a(b,a(a(a(0*))),c,a(d,1*))");
        fault(1, 0, "c(0*,a(1*,a(2*)))");
        put(0, 0, "a(0*,a(1*))", "a(0*,a(1*))");
        put(2, 0, "a(0*,a(1*))", "a(0*,a(1*))");
        put(1, 0, "a(0*,b(a(1*)))", "a(0*,b(a(1*)))");
        put(1, 0, "a(0*,a(b(1*)))", "a(0*,b(1*))");
        put(1, 0, "a(a(b(0*)),a(b(0*)),0*)", "a(b(0*),b(0*),0*)");
        put(1, 0, "b(a(0*),a(1*))", "b(a(0*),a(1*))");
        put(1, 0, "a(a(b,b,b,b,b,b,b),0*)", "a(b,b,b,b,b,b,b,0*)");
        fault(1, 0, "a(a(b,b,b,b,b,b,b,b),0*)");
    }

    private static void whereAndWhen() {
        CHECK.sentence("Promise 4: put", "When a term is put into a register from a text, it is first flattened. Then it is sorted");
        put(1, 1, "a(d,a(c,a(b)),a)", "a(a,b,c,d)");
        put(1, 1, "a(b(e),a(c(d),a(b)),b(d))", "a(b,b(d),b(e),c(d))");
        put(1, 2, "a(a(b(d,c)),b)", "a(b(c,d),b)");
        LeastPatterns x = Check.with("a(a(c),b)", "b(1,0)", "b(0,1)", "b(d,b(c))");
        x.set(2, ALL);
        x.set(3, ALL);
        CHECK.due("a term that is in a register stays", Check.show(x, 0), "a(a(c),b)");
        x.join(0, 0, 4);
        CHECK.due("a join is no text", Check.show(x, 4), "a(a(c),b)");
        x.joinAll(3, 5);
        CHECK.due("a join is no text", Check.show(x, 5), "0");
        x.learn(0, 3, 0, 3, 6, 7);
        CHECK.due("nor what is learnt", Check.show(x, 6) + Check.show(x, 7), "a(a(c),b)b(d,b(c))");
        CHECK.due("apply", x.apply(2, 1, 3, 4), 4);
        CHECK.due("nor what is applied", Check.show(x, 4), "b(b(c),d)");
    }

    /** What an earlier text left behind, a refused one too, does not matter. */
    private static void oneTextAfterAnother() {
        CHECK.sentence("Promise 4: put", "Reads the text buffer as a term, flattens and sorts it, and puts it into a register");
        String[] texts = {"a(a(c),a(b))", "a(b(a(c)),b(a))", "a(a(b,b,b,b,b),a(b,b,b,b))", "b(a(a(a(0*))),1(c))",
            "a(0*,a(1*))", "a(a(d,c,b),0(c))", "b(b(a(1))", "a(h,g,f,e,d,c,b,a)", "a(1*,a(0(b),c))", "1", "c"};
        String[] due = {"a(b,c)", "a(b(a),b(a(c)))", "fault 5", "b(a(0*),1(c))",
            "fault 5", "a(b,c,d,0(c))", "fault 1", "a(a,b,c,d,e,f,g,h)", "a(1*,0(b),c)", "1", "c"};
        for (int start = 0; start < texts.length; start++) {
            LeastPatterns x = settings(1, 1);
            for (int k = 0; k < texts.length; k++) {
                int n = (start + k * 3) % texts.length;
                x.empty(2);
                Check.putText(x, 2, texts[n]);
                boolean fault = due[n].startsWith("fault");
                CHECK.due(texts[n], fault ? "fault " + x.fault() : Check.show(x, 2), due[n]);
                CHECK.due("fault", x.fault() != LeastPatterns.NONE ? 1 : 0, fault ? 1 : 0);
            }
        }
    }

    private static void sortedSymbols() {
        CHECK.sentence("Promise 4: put", "setting 3 the sorted ones, as a bit mask: a (bit 0) to m (bit 12)");
        for (int s = 0; s <= 12; s++) {
            String symbol = String.valueOf((char) ('a' + s));
            String text = symbol + "(2,1)";
            String sorted = symbol + "(1,2)";
            put(0, 1 << s, text, sorted);
            put(0, ALL, text, sorted);
            put(0, ALL - (1 << s), text, text);
            put(0, 0, text, text);
            put(1 << s, 0, text, text);
        }
        put(0, ALL, "0(c,b)", "0(c,b)");
        put(0, ALL, "0(c,a(c,b))", "0(c,a(b,c))");
        put(0, ALL, "a", "a");
        put(0, ALL, "a(b)", "a(b)");
        put(0, 1, "a(h,g,f,e,d,c,b,a)", "a(a,b,c,d,e,f,g,h)");
        put(0, 1, "a(b,c,d,e,f,g,h,a)", "a(a,b,c,d,e,f,g,h)");
    }

    private static void sequenceAmongArguments() {
        CHECK.sentence("Promise 4: put", "and which has no sequence hole among its arguments");
        put(0, 1, "a(0*,c,b)", "a(0*,c,b)");
        put(0, 1, "a(c,0*,b)", "a(c,0*,b)");
        put(0, 1, "a(c,b,0*)", "a(c,b,0*)");
        put(0, 1, "a(c,b,d,e,f,g,h,0*)", "a(c,b,d,e,f,g,h,0*)");
        // one deeper inside does not matter, and the nodes inside are sorted for themselves
        put(0, 1, "a(c(0*),b(0*),b)", "a(b,b(0*),c(0*))");
        put(0, 1, "a(0*,a(c,b))", "a(0*,a(b,c))");
        put(0, 1, "a(a(c,b,0*),a(c,b))", "a(a(b,c),a(c,b,0*))");
        // it can come by flattening
        put(1, 1, "a(c,a(b,0*))", "a(c,b,0*)");
    }

    private static void innerFirst() {
        CHECK.sentence("Promise 4: put", "are put in order, those of inner nodes first");
        put(0, 3, "a(b(d,e),b(e,c))", "a(b(c,e),b(d,e))");
        put(0, 1, "a(b(d,e),b(e,c))", "a(b(d,e),b(e,c))");
        put(0, 2, "a(b(e,d),b(e,c))", "a(b(d,e),b(c,e))");
        put(0, 7, "a(c(b(d,e)),c(b(e,c)))", "a(c(b(c,e)),c(b(d,e)))");
        put(0, 1, "a(a(a(a(a(a(c,b),b),b),b),b),b)", "a(b,a(b,a(b,a(b,a(b,a(b,c))))))");
        put(0, 1, "a(b,a(c,a(e,d)),a(d,a(c,b)))", "a(b,a(c,a(d,e)),a(d,a(b,c)))");
    }

    private static void equalOnes() {
        CHECK.sentence("Promise 4: put", "equal ones stay as they are");
        put(0, 1, "a(b,b,b,b,b,b,b,b)", "a(b,b,b,b,b,b,b,b)");
        put(0, 1, "a(c,b,c,b)", "a(b,b,c,c)");
        put(0, 1, "a(b(c,d),b(c),b(c,d),b(c))", "a(b(c),b(c),b(c,d),b(c,d))");
        put(0, 1, "a(0,0)", "a(0,0)");
        put(0, 1, "a(1(b),1(b),0(b))", "a(0(b),1(b),1(b))");
        put(0, 1, "a(b(0*),b(0*),b)", "a(b,b(0*),b(0*))");
    }

    private static void fewerNodes() {
        CHECK.sentence("Promise 4: put", "Of two terms the one with fewer nodes comes first");
        put(0, 1, "a(a(a,a),b)", "a(b,a(a,a))");
        put(0, 1, "a(b(b),m)", "a(m,b(b))");
        put(0, 1, "a(b(b),9)", "a(9,b(b))");
        put(0, 1, "a(b(c,d),9(m))", "a(9(m),b(c,d))");
        put(0, 1, "a(b(b,b,b,b,b,b,b,b),b(b,b,b,b,b,b,b))", "a(b(b,b,b,b,b,b,b),b(b,b,b,b,b,b,b,b))");
        put(0, 1, "a(b(b(b(b(b(b(c)))))),m(b,b,b,b,b))", "a(m(b,b,b,b,b),b(b(b(b(b(b(c)))))))");
        // the sequence hole counts as a node
        put(0, 1, "a(b(0*),c)", "a(c,b(0*))");
    }

    private static void firstDifference() {
        CHECK.sentence("Promise 4: put", "at the first difference, a symbol comes before a hole, a term hole before a head hole, and this before a sequence hole");
        put(0, 1, "a(0,m)", "a(m,0)");
        put(0, 1, "a(0(b),m(b))", "a(m(b),0(b))");
        put(0, 1, "a(c(0*),c(m))", "a(c(m),c(0*))");
        put(0, 1, "a(c(0),c(m))", "a(c(m),c(0))");
        put(0, 1, "a(c(0(b),d),c(9,d(b)))", "a(c(9,d(b)),c(0(b),d))");
        put(0, 1, "a(c(0*,d(b)),c(9(b),d))", "a(c(9(b),d),c(0*,d(b)))");
        put(0, 1, "a(c(0*,d),c(9,d))", "a(c(9,d),c(0*,d))");
        put(0, 1, "a(c(0*,d(b)),c(9,d(b)),c(8(b),d),c(m,d(b)))", "a(c(m,d(b)),c(9,d(b)),c(8(b),d),c(0*,d(b)))");
        CHECK.sentence("Promise 4: put", "of the same sort the smaller number comes first");
        put(0, 1, "a(m,a)", "a(a,m)");
        put(0, 1, "a(9,0)", "a(0,9)");
        put(0, 1, "a(9(b),0(b))", "a(0(b),9(b))");
        put(0, 1, "a(b(9*),b(0*))", "a(b(0*),b(9*))");
        put(0, 1, "a(c(a,a),b(m,m))", "a(b(m,m),c(a,a))");
        put(0, 1, "a(c(b,b),b(c(c)))", "a(b(c(c)),c(b,b))");
        put(0, 1, "a(1(b,b),0(c(c)))", "a(0(c(c)),1(b,b))");
        CHECK.sentence("Promise 4: put", "and of the same number the node with fewer arguments");
        put(0, 1, "a(b(a,a),b(m(m)))", "a(b(m(m)),b(a,a))");
        put(0, 1, "a(0(a,a),0(m(m)))", "a(0(m(m)),0(a,a))");
        put(0, 1, "a(c(b(a),a),c(b,m(m)))", "a(c(b,m(m)),c(b(a),a))");
        CHECK.sentence("Promise 4: put", "they are compared node by node, in the order of their indices");
        put(0, 1, "a(b(c,d),b(b,e))", "a(b(b,e),b(c,d))");
        put(0, 1, "a(b(c,e),b(c,d))", "a(b(c,d),b(c,e))");
        put(0, 1, "a(b(c,c,c,c,c,c,c,d),b(c,c,c,c,c,c,c,c))", "a(b(c,c,c,c,c,c,c,c),b(c,c,c,c,c,c,c,d))");
    }
}
