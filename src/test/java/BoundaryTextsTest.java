/** TEXTS: texts that are empty, full or end too early, and which fault comes first, and where. */
public final class BoundaryTextsTest {
    private static final Check CHECK = new Check();
    private static final int BYTE = 1;
    private static final int ARGUMENT = 2;
    private static final int NODE = 3;
    private static final int HOLE = 4;
    private static final String ROW = "b(c,c,c,c,c,c,c)";
    /** 32 nodes, and a comma behind which a 33rd one would be the eighth argument of its node. */
    private static final String FULL_OF_NODES = "a(" + ROW + "," + ROW + "," + ROW + ",b(c,c,c,c,c,c,";
    private static final String DEPTH_7 = "a(a(a(a(a(a(a(a";
    /** A text of 80 bytes that is a term. */
    private static final String LONGEST =
            "a(b(c(d(e(f(g,h(i),j(k,l),m,a,b,c,d),e(f(g),h(i))),j),k(l)),m(a)),b(c),d(e(0*)))";

    public static void main(String[] args) {
        buffer();
        endsTooEarly();
        bytesThatCannotStandThere();
        ninthArgument();
        thirtyThirdNode();
        depthEight();
        anotherSort();
        secondSequence();
        behindTheDigit();
        secondBeforeThird();
        thirdBeforeFourth();
        beginsNoArgument();
        leftToRight();
        CHECK.end();
    }

    private static boolean begins(int c) {
        return c >= 'a' && c <= 'm' || c >= '0' && c <= '9';
    }

    private static LeastPatterns typed(String text) {
        LeastPatterns x = Check.with("a(b)", "c(0)", "", "m");
        x.set(1, 1);
        Check.putText(x, 2, "a(");
        Check.typeText(x, text);
        return x;
    }

    private static void term(String text, int nodes) {
        LeastPatterns x = typed(text);
        CHECK.due("put of " + text, x.put(3), nodes);
        CHECK.due("fault of " + text, x.fault(), LeastPatterns.NONE);
        CHECK.due("the term of " + text, Check.show(x, 3), text);
        CHECK.due("states", x.told(7), 5);
        CHECK.due("the text buffer stays", x.told(6), text.length());
    }

    /** A text with a fault: put() tells where, fault() which, and nothing else has changed. */
    private static void fault(String text, int kind, int position) {
        LeastPatterns x = typed(text);
        LeastPatterns before = typed(text);
        CHECK.due("put of " + text, x.put(3), -10 - position);
        CHECK.due("fault of " + text, x.fault(), kind);
        CHECK.due("registers behind " + text, Check.showAll(x), Check.showAll(before));
        for (int what = 0; what <= 7; what++) {
            CHECK.due("told(" + what + ") behind " + text, x.told(what), before.told(what));
        }
        before.put(4);
        CHECK.same("behind " + text, x, before);
    }

    private static void buffer() {
        CHECK.sentence("Promise 2: type", "The text buffer has at most 80 bytes; FULL if it has 80");
        LeastPatterns x = new LeastPatterns();
        for (int n = 1; n <= 80; n++) {
            CHECK.due("byte " + n, x.type(LONGEST.charAt(n - 1)), n);
        }
        CHECK.due("bytes", x.told(6), 80);
        for (int n = 0; n < 3; n++) {
            CHECK.due("one byte more", x.type('a'), LeastPatterns.FULL);
            CHECK.due("bytes", x.told(6), 80);
        }
        CHECK.due("no byte, into a full buffer", x.type(32), LeastPatterns.BAD);
        CHECK.due("no byte, into a full buffer", x.type(127), LeastPatterns.BAD);
        CHECK.due("the term is that of the 80 bytes", x.put(0), 32);
        CHECK.due("the term is that of the 80 bytes", Check.show(x, 0), LONGEST);
        CHECK.refused("type", () -> typed(LONGEST), y -> y.type(')'), LeastPatterns.FULL);
        CHECK.due("79 bytes and one more", typed(LONGEST.substring(1)).type('a'), 80);
        CHECK.sentence("Promise 3: clear", "Empties the text buffer; Returns how many bytes it had");
        CHECK.due("of a full one", x.clear(), 80);
        CHECK.due("of an empty one", x.clear(), 0);
        CHECK.due("put of nothing", x.put(1), -10);
        CHECK.due("the first byte", x.type('a'), 1);
        CHECK.due("the byte is a text of its own", x.put(1), 1);
        CHECK.due("of one byte", x.clear(), 1);
        CHECK.due("the term is still there", Check.show(x, 0), LONGEST);
    }

    private static void endsTooEarly() {
        CHECK.sentence("Promise 4: put", "1 the text ends too early (its length is the position)");
        fault("", BYTE, 0);
        String[] wholes = {"m(0(a,1*),2,b(c(d,0(e)),2,1*),3)", "0(1*)", "9(8(7(6(5*))))", "a(b,c,d,e,f,g,h,i)", LONGEST};
        for (String whole : wholes) {
            term(whole, typed(whole).put(3));
            for (int n = 2; n < whole.length(); n++) {
                // a head hole's digit at the end is a term hole there: see behindTheDigit()
                boolean sorts = whole.startsWith("m(") && n == whole.indexOf("0(e") + 1;
                boolean second = whole.startsWith("m(") && n == whole.lastIndexOf("1*") + 1;
                if (!sorts && !second) {
                    fault(whole.substring(0, n), BYTE, n);
                }
            }
        }
        term("m", 1);
        term("0", 1);
        String without = LONGEST.substring(0, 79);
        fault(without, BYTE, 79);
        fault(without + ",", BYTE, 80);
        fault(without + "x", BYTE, 79);
        fault(without + "*", BYTE, 79);
        CHECK.due("all bytes are a's", typed(Check.times("a", 80)).put(0), -11);
    }

    private static void bytesThatCannotStandThere() {
        CHECK.sentence("Promise 4: put", "1 a byte that cannot stand there");
        for (int c = 33; c <= 126; c++) {
            String sign = String.valueOf((char) c);
            if (begins(c)) {
                term(sign, 1);
                fault("a(" + sign, BYTE, 3);
                term("a(b," + sign + ")", 3);
            } else {
                fault(sign, BYTE, 0);
                fault("a(" + sign, BYTE, 2);
                fault("a(b," + sign + ")", BYTE, 4);
            }
            fault("a" + sign, BYTE, c == '(' ? 2 : 1);
            fault("0" + sign, BYTE, c == '(' ? 2 : 1);
            fault("a(b)" + sign, BYTE, 4);
            if (c != ')') {
                fault("a(b" + sign, BYTE, c == ',' || c == '(' ? 4 : 3);
                fault("a(0" + sign, BYTE, c == ',' || c == '(' || c == '*' ? 4 : 3);
                fault("a(0*" + sign, BYTE, c == ',' ? 5 : 4);
                fault("a(b(c)" + sign, BYTE, c == ',' ? 7 : 6);
            }
        }
        term("a(b)", 2);
        term("a(0)", 2);
        term("a(0*)", 2);
        term("a(b(c))", 3);
        fault("a()", BYTE, 2);
        fault("0()", BYTE, 2);
        fault("a(0())", BYTE, 4);
    }

    private static void ninthArgument() {
        CHECK.sentence("Promise 4: put", "2 a ninth argument, at its first byte");
        String[] rows = {"a(", "0(", "c(b,a(", "a(a(a(a(a(a(a("};
        for (String row : rows) {
            String eight = row + "b,b,b,b,b,b,b,b";
            String closed = eight + Check.times(")", (int) row.chars().filter(c -> c == '(').count());
            term(closed, typed(closed).put(3));
            String[] ninth = {"a", "m", "5", "9", "b(c)", "9(c)", "9*"};
            for (String argument : ninth) {
                fault(eight + "," + argument + ")", ARGUMENT, eight.length() + 1);
                fault(eight + "," + argument, ARGUMENT, eight.length() + 1);
            }
        }
        term("a(b,b,b,b,b,b,b,0*)", 9);
        fault("a(0*,b,b,b,b,b,b,b,b)", ARGUMENT, 19);
        fault("a(b(c,d,e),b,b,b,b,b,b,b,b)", ARGUMENT, 25);
    }

    private static void thirtyThirdNode() {
        CHECK.sentence("Promise 4: put", "3 a 33rd node, at its first byte");
        term(FULL_OF_NODES.substring(0, FULL_OF_NODES.length() - 1) + "))", 32);
        String[] nodes = {"a", "m", "0", "9", "c(d)", "9(c)", "9*"};
        for (String node : nodes) {
            fault(FULL_OF_NODES + node + "))", NODE, FULL_OF_NODES.length());
            fault(FULL_OF_NODES + node, NODE, FULL_OF_NODES.length());
        }
        CHECK.sentence("Promise 4: put", "at most 32 nodes (sequence holes are counted)");
        String sequences = FULL_OF_NODES.replace("b(c,c", "b(c,0*");
        term(sequences.substring(0, sequences.length() - 1) + "))", 32);
        fault(sequences + "c))", NODE, sequences.length());
        fault(sequences.substring(0, sequences.length() - 1) + "),1*)", NODE, sequences.length() + 1);
    }

    private static void depthEight() {
        CHECK.sentence("Promise 4: put", "3 a node with the depth 8, at its first byte");
        term(DEPTH_7 + ")))))))", 8);
        term("a(a(a(a(a(a(a(9*)))))))", 8);
        term("a(a(a(a(a(a(a(9)))))))", 8);
        String[] nodes = {"a", "m", "0", "9", "c(d)", "9(c)", "9*"};
        for (String node : nodes) {
            fault(DEPTH_7 + "(" + node + "))))))))", NODE, 16);
            fault(DEPTH_7 + "(" + node, NODE, 16);
            fault("a(a(a(a(a(a(a(b,0(" + (node.equals("0") ? "8" : node), NODE, 18);
        }
        fault(DEPTH_7 + "(", BYTE, 16);
    }

    private static void anotherSort() {
        CHECK.sentence("Promise 4: put", "4 a hole that had another sort before: at its digit");
        String[] holes = {"9", "9(b)", "9*"};
        for (int first = 0; first < 3; first++) {
            for (int then = 0; then < 3; then++) {
                String apart = "a(c(" + holes[first] + "),c(" + holes[then] + "))";
                if (first == then) {
                    term(apart, first == 1 ? 7 : 5);
                } else {
                    fault(apart, HOLE, apart.lastIndexOf('9'));
                    String row = "a(" + holes[first] + "," + holes[then] + ")";
                    fault(row, HOLE, row.lastIndexOf('9'));
                }
            }
        }
        fault("9(9)", HOLE, 2);
        fault("9(9*)", HOLE, 2);
        term("9(9(b))", 3);
        fault("9(b,9(9))", HOLE, 6);
        term("a(0,1(b),2*,c(0,1(b),2*))", 10);
        fault("a(0,1(b),2*,c(1,0(b),2*))", HOLE, 14);
        // a hole of another number has its own sort
        term("a(0,1(0),2*,3,4(5*))", 8);
    }

    private static void secondSequence() {
        CHECK.sentence("Promise 4: put", "4 a second sequence hole among the arguments of a node: at its digit");
        term("a(0*)", 2);
        fault("a(0*,1*)", HOLE, 5);
        fault("a(0*,0*)", HOLE, 5);
        fault("0(1*,2*)", HOLE, 5);
        fault("a(b,0*,c,d,e,f,g,1*)", HOLE, 17);
        // each node has its own: those above, beneath and beside it do not matter
        term("a(0*,b(0*,c(1*)),d(0*))", 8);
        term("a(b(0*,c(1*)),d(0*),2*)", 8);
        fault("a(b(0*,c(1*)),d(0*),2*,3*)", HOLE, 23);
        fault("a(0*,b(1*),2*)", HOLE, 11);
        fault("a(0*,b(c,1*,0*))", HOLE, 12);
    }

    private static void behindTheDigit() {
        CHECK.sentence("Promise 4: put", "it is found when the byte behind the digit has been looked at");
        fault("a(0,0(", HOLE, 4);
        fault("a(0,0*", HOLE, 4);
        fault("a(0(b),0)", HOLE, 7);
        fault("a(0(b),0,", HOLE, 7);
        fault("a(0(b),0*", HOLE, 7);
        fault("a(0*,0(", HOLE, 5);
        fault("a(0*,0)", HOLE, 5);
        fault("a(0*,1*", HOLE, 5);
        fault("a(0*,1,1*", HOLE, 7);
        // behind a second sequence hole's number no star: it is a term hole
        term("a(0*,1)", 3);
        fault("a(0*,1", BYTE, 6);
        // the byte that follows cannot stand there, but the digit stands before it
        fault("a(0(b),0x", HOLE, 7);
        fault("a(0(b),0", HOLE, 7);
        fault("a(0*,0x", HOLE, 5);
        fault("a(0*,0", HOLE, 5);
        // the same sort again: the byte behind the digit is what is faulty
        fault("a(0,0x", BYTE, 5);
        fault("a(0,0", BYTE, 5);
    }

    private static void secondBeforeThird() {
        CHECK.sentence("Promise 4: put", "At a first byte the kind 2 comes before 3");
        String eight = "a(b(c,c,c,c,c,c,c,c),b(c,c,c,c,c,c,c,c),b(c,c,c,c,c,c,c),c,c,c,c,c";
        term(eight + ")", 32);
        fault(eight + ",c)", ARGUMENT, eight.length() + 1);
        fault(eight + ",0)", ARGUMENT, eight.length() + 1);
        String seven = "a(b(c,c,c,c,c,c,c,c),b(c,c,c,c,c,c,c,c),b(c,c,c,c,c,c,c,c),c,c,c,c";
        term(seven + ")", 32);
        fault(seven + ",c)", NODE, seven.length() + 1);
        CHECK.sentence("Promise 4: put", "the kind 2 comes before 4");
        fault("a(1,b,b,b,b,b,b,b,1*)", ARGUMENT, 18);
        fault("a(1*,b,b,b,b,b,b,b,2*)", ARGUMENT, 19);
        fault("a(1,b,b,b,b,b,b,1*,b)", HOLE, 16);
        fault("1(b,b,b,b,b,b,b,b,1)", ARGUMENT, 18);
    }

    private static void thirdBeforeFourth() {
        CHECK.sentence("Promise 4: put", "and 3 before 4");
        String node = FULL_OF_NODES.replace("a(b(c", "a(b(0");
        fault(node + "0*))", NODE, node.length());
        fault(node + "0(c)))", NODE, node.length());
        fault(node.substring(0, node.length() - 2) + "0*))", HOLE, node.length() - 2);
        String sequence = FULL_OF_NODES.replace(",b(c,c,c,c,c,c,", ",b(0*,c,c,c,c,c,");
        fault(sequence + "1*))", NODE, sequence.length());
        fault(sequence.substring(0, sequence.length() - 2) + "1*))", HOLE, sequence.length() - 2);
        fault("0(a(a(a(a(a(a(a(0))))))))", NODE, 16);
        fault("0(a(a(a(a(a(a(0)))))))", HOLE, 14);
        fault("a(1*,a(a(a(a(a(a(a(1(b", NODE, 19);
    }

    private static void beginsNoArgument() {
        CHECK.sentence("Promise 4: put",
                "A byte that can begin no argument is a fault of the kind 1, also where there would be one of the kinds 2 and 3");
        String eight = "a(b,b,b,b,b,b,b,b,";
        String both = "a(b(c,c,c,c,c,c,c,c),b(c,c,c,c,c,c,c,c),b(c,c,c,c,c,c,c),c,c,c,c,c,";
        for (int c = 33; c <= 126; c++) {
            String sign = String.valueOf((char) c);
            fault(eight + sign, begins(c) ? ARGUMENT : BYTE, eight.length());
            fault(FULL_OF_NODES + sign, begins(c) ? NODE : BYTE, FULL_OF_NODES.length());
            fault(DEPTH_7 + "(" + sign, begins(c) ? NODE : BYTE, 16);
            fault(both + sign, begins(c) ? ARGUMENT : BYTE, both.length());
        }
        fault(eight, BYTE, eight.length());
        fault(FULL_OF_NODES, BYTE, FULL_OF_NODES.length());
        fault(both, BYTE, both.length());
    }

    private static void leftToRight() {
        CHECK.sentence("Promise 5: fault", "it is read from left to right; the kind of the fault that put() found");
        fault("a(0,0(!", HOLE, 4);
        fault("a(!,0,0(b))", BYTE, 2);
        fault("a(b,b,b,b,b,b,b,b,b,0,0(b)!", ARGUMENT, 18);
        fault("a(0,0*,b,b,b,b,b,b,b)", HOLE, 4);
        fault("a(a(a(a(a(a(a(a(b,0,0*", NODE, 16);
        fault(FULL_OF_NODES + "c,c,c)!", NODE, FULL_OF_NODES.length());
        fault("a(b))0,0*", BYTE, 4);
    }
}
