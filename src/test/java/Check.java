/** Counts answers that are not as due, and has what the tests share. */
final class Check {
    private int asked = 0;
    private int wrong = 0;
    private String sentence = "";
    private int askedBefore = 0;
    private int sentences = 0;

    void due(String call, long got, long want) {
        asked++;
        if (got != want) {
            wrong++;
            System.out.println(sentence + call + " answered " + got + ", due is " + want);
        }
    }

    void due(String what, String got, String want) {
        asked++;
        if (!got.equals(want)) {
            wrong++;
            System.out.println(sentence + what + " is " + got + ", due is " + want);
        }
    }

    /** Begins the test of a sentence of the document; a sentence that asks nothing fails. */
    void sentence(String promise, String words) {
        endOfSentence();
        sentences++;
        sentence = promise + ", \"" + words + "\": ";
    }

    private void endOfSentence() {
        if (!sentence.isEmpty() && asked == askedBefore) {
            wrong++;
            System.out.println(sentence + "nothing was asked");
        }
        askedBefore = asked;
    }

    interface Make {
        LeastPatterns object();
    }

    interface Call {
        int on(LeastPatterns x);
    }

    /** A call that must be refused and change nothing: the object stays like one without this call. */
    void refused(String name, Make make, Call call, int want) {
        LeastPatterns x = make.object();
        due(name, call.on(x), want);
        same("behind " + name, x, make.object());
    }

    /** Two objects must answer alike: now, behind each undo(), and when their texts are read. */
    void same(String where, LeastPatterns x, LeastPatterns twin) {
        due(where + ": registers", showAll(x), showAll(twin));
        due(where + ": fault", x.fault(), twin.fault());
        due(where + ": digest", x.digest(), twin.digest());
        for (int n = 0; n <= 6; n++) {
            due(where + ": undo", x.undo(), twin.undo());
            due(where + ": registers behind undo", showAll(x), showAll(twin));
            due(where + ": digest behind undo", x.digest(), twin.digest());
        }
        due(where + ": put", x.put(0), twin.put(0));
        due(where + ": fault behind put", x.fault(), twin.fault());
        due(where + ": digest behind put", x.digest(), twin.digest());
    }

    /** A call that must answer want for a register below and above its range. */
    interface OfRegister {
        int call(int r);
    }

    void badRegister(String call, OfRegister of) {
        int[] outside = {-1, 8, Integer.MIN_VALUE, Integer.MAX_VALUE};
        for (int r : outside) {
            due(call + " with register " + r, of.call(r), LeastPatterns.BAD);
        }
    }

    /** Ends the test; a test that asked nothing fails, too. */
    void end() {
        endOfSentence();
        System.out.println(asked + " answers to " + sentences + " sentences, " + wrong + " not as due");
        if (wrong != 0 || asked == 0) {
            System.exit(1);
        }
    }

    /** Makes the text buffer hold a text. */
    static void typeText(LeastPatterns x, String text) {
        x.clear();
        for (int i = 0; i < text.length(); i++) {
            x.type(text.charAt(i));
        }
    }

    /** Puts a text into a register, and answers as put() does. */
    static int putText(LeastPatterns x, int r, String text) {
        typeText(x, text);
        return x.put(r);
    }

    /** A new object with these texts in the registers from 0 on; an empty text leaves one empty. */
    static LeastPatterns with(String... texts) {
        LeastPatterns x = new LeastPatterns();
        for (int r = 0; r < texts.length; r++) {
            if (!texts[r].isEmpty() && putText(x, r, texts[r]) < 0) {
                throw new IllegalStateException("no term: " + texts[r]);
            }
        }
        return x;
    }

    /** The term of a register as node() tells it, "-" if it is empty. */
    static String show(LeastPatterns x, int r) {
        int count = x.size(r, 0);
        if (count < 0) {
            return "-";
        }
        StringBuilder text = new StringBuilder();
        int end = show(x, r, 0, text);
        return end == count ? text.toString() : text + " and " + (count - end) + " nodes more";
    }

    private static int show(LeastPatterns x, int r, int i, StringBuilder text) {
        int sort = x.node(r, i, 0);
        int number = x.node(r, i, 1);
        int arguments = x.node(r, i, 2);
        text.append((char) ((sort == 0 ? 'a' : '0') + number));
        if (sort == 3) {
            text.append('*');
        }
        int next = i + 1;
        for (int k = 0; k < arguments; k++) {
            text.append(k == 0 ? '(' : ',');
            next = show(x, r, next, text);
        }
        if (arguments > 0) {
            text.append(')');
        }
        return next;
    }

    /** Text, repeated. */
    static String times(String text, int n) {
        return text.repeat(n);
    }

    /** All registers in one text. */
    static String showAll(LeastPatterns x) {
        StringBuilder text = new StringBuilder();
        for (int r = 0; r < 8; r++) {
            text.append(r == 0 ? "" : " ").append(show(x, r));
        }
        return text.toString();
    }
}
