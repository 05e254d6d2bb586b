/**
 * Promises 4 and 5: every text over a few signs up to some length, compared with the model. A text
 * whose fault stands before its last two bytes is not made longer: what follows changes nothing.
 */
public final class ShortTextsTest {
    private static final Check CHECK = new Check();
    private static final String SIGNS = "ab01(),*n";
    /** An object is used for at most 512 calls. */
    private static final int CALLS = 500;

    private static LeastPatterns x;
    private static Model model;
    private static int calls;
    private static int flat;
    private static int sorted;
    private static int texts = 0;

    public static void main(String[] args) {
        read("", 10, 0, 0);
        read("a(", 10, 1, 0);
        read("a(a(", 11, 1, 1);
        read("a(b(1", 12, 2, 3);
        read("a(0*", 12, 3, 1);
        // what comes first where an argument, a node or a depth would be one too many
        read("a(b,b,b,b,b,b,b,", 21, 0, 0);
        read("0(b,b,b,b,b,b,b,1*", 23, 0, 0);
        read("a(a(a(a(a(a(a(", 18, 0, 0);
        read("a(1,a(a(a(a(a(a(", 20, 0, 0);
        read("a(b(a,b,a,b,a,b,0),b(a,b,a,b,a,b,a),b(a,b,a,b,a,b,a),b(a,b,a,b,a,", 69, 0, 0);
        read("a(b(a,b,a,b,a,b,a,b),b(a,b,a,b,a,b,a,b),b(a,b,a,b,a,b,0),b,b,b,b,", 69, 0, 0);
        System.out.println(texts + " texts");
        CHECK.end();
    }

    private static void read(String start, int longest, int flatSymbols, int sortedSymbols) {
        flat = flatSymbols;
        sorted = sortedSymbols;
        calls = CALLS;
        extend(start, longest);
    }

    private static void extend(String text, int longest) {
        int answer = put(text);
        boolean goesOn = answer >= 0 || model.fault() == 5 || -10 - answer >= text.length() - 1;
        if (!goesOn || text.length() == longest) {
            return;
        }
        for (int k = 0; k < SIGNS.length(); k++) {
            extend(text + SIGNS.charAt(k), longest);
        }
    }

    private static int put(String text) {
        if (calls + text.length() + 4 > CALLS) {
            x = new LeastPatterns();
            model = new Model();
            x.set(2, flat);
            x.set(3, sorted);
            model.set(2, flat);
            model.set(3, sorted);
            calls = 2;
        }
        Check.typeText(x, text);
        model.clear();
        for (int k = 0; k < text.length(); k++) {
            model.type(text.charAt(k));
        }
        int answer = model.put(3);
        CHECK.due("put of " + text, x.put(3), answer);
        CHECK.due("fault of " + text, x.fault(), model.fault());
        if (answer > 0) {
            CHECK.due("digest of " + text, x.digest(), model.digest());
        }
        calls += text.length() + 4;
        texts++;
        return answer;
    }
}
