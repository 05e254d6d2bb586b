/** Counts answers that are not as due, and has what the tests share. */
final class Check {
    private int asked = 0;
    private int wrong = 0;

    void due(String call, long got, long want) {
        asked++;
        if (got != want) {
            wrong++;
            System.out.println(call + " answered " + got + ", due is " + want);
        }
    }

    void due(String what, String got, String want) {
        asked++;
        if (!got.equals(want)) {
            wrong++;
            System.out.println(what + " is " + got + ", due is " + want);
        }
    }

    /** A call that must answer want for a register below and above its range. */
    interface OfRegister {
        int call(int r);
    }

    void badRegister(String call, OfRegister of) {
        int[] outside = {-1, 8, Integer.MIN_VALUE, Integer.MAX_VALUE};
        for (int r : outside) {
            due(call + " with register " + r, of.call(r), LeastPatterns.BAD);
        }
    }

    /** Ends the test; a test that asked nothing fails, too. */
    void end() {
        System.out.println(asked + " answers, " + wrong + " not as due");
        if (wrong != 0 || asked == 0) {
            System.exit(1);
        }
    }

    /** Makes the text buffer hold a text. */
    static void typeText(LeastPatterns x, String text) {
        x.clear();
        for (int i = 0; i < text.length(); i++) {
            x.type(text.charAt(i));
        }
    }

    /** Puts a text into a register, and answers as put() does. */
    static int putText(LeastPatterns x, int r, String text) {
        typeText(x, text);
        return x.put(r);
    }

    /** A new object with these texts in the registers from 0 on; an empty text leaves one empty. */
    static LeastPatterns with(String... texts) {
        LeastPatterns x = new LeastPatterns();
        for (int r = 0; r < texts.length; r++) {
            if (!texts[r].isEmpty() && putText(x, r, texts[r]) < 0) {
                throw new IllegalStateException("no term: " + texts[r]);
            }
        }
        return x;
    }

    /** The term of a register as node() tells it, "-" if it is empty. */
    static String show(LeastPatterns x, int r) {
        int count = x.size(r, 0);
        if (count < 0) {
            return "-";
        }
        StringBuilder text = new StringBuilder();
        int end = show(x, r, 0, text);
        return end == count ? text.toString() : text + " and " + (count - end) + " nodes more";
    }

    private static int show(LeastPatterns x, int r, int i, StringBuilder text) {
        int sort = x.node(r, i, 0);
        int number = x.node(r, i, 1);
        int arguments = x.node(r, i, 2);
        text.append((char) ((sort == 0 ? 'a' : '0') + number));
        if (sort == 3) {
            text.append('*');
        }
        int next = i + 1;
        for (int k = 0; k < arguments; k++) {
            text.append(k == 0 ? '(' : ',');
            next = show(x, r, next, text);
        }
        if (arguments > 0) {
            text.append(')');
        }
        return next;
    }

    /** Text, repeated. */
    static String times(String text, int n) {
        return text.repeat(n);
    }

    /** All registers in one text. */
    static String showAll(LeastPatterns x) {
        StringBuilder text = new StringBuilder();
        for (int r = 0; r < 8; r++) {
            text.append(r == 0 ? "" : " ").append(show(x, r));
        }
        return text.toString();
    }
}
