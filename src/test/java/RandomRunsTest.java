import java.util.ArrayList;
import java.util.List;
import java.util.Random;
import java.util.TreeMap;

/**
 * Runs of at most 512 calls, of fixed seeds, on the program and on the model, each answer compared.
 * Terms are made from one another by small changes, so that joins have something in common.
 */
public final class RandomRunsTest {
    private static final int RUNS = 2000;
    private static final int CALLS = 500;
    private static final int STATE = -2;

    private final Random random;
    private final LeastPatterns x = new LeastPatterns();
    private final Model model = new Model();
    private final StringBuilder log = new StringBuilder();
    private final List<Model.Node> family = new ArrayList<>();
    private final int symbols;
    private final int width;
    private final boolean holes;
    private final int theme;
    private final int shape;
    private int calls = 0;
    private static final TreeMap<String, Integer> SEEN = new TreeMap<>();
    private static int wrong = 0;

    private RandomRunsTest(long seed) {
        random = new Random(seed);
        symbols = 1 + random.nextInt(5);
        width = 1 + random.nextInt(8);
        holes = random.nextInt(3) > 0;
        theme = 1 + random.nextInt(9);
        shape = random.nextInt(4);
    }

    public static void main(String[] args) {
        int runs = args.length > 0 ? Integer.parseInt(args[0]) : RUNS;
        long first = args.length > 1 ? Long.parseLong(args[1]) : 0;
        for (long seed = first; seed < first + runs && wrong < 5; seed++) {
            new RandomRunsTest(seed).run(seed);
        }
        for (String answer : SEEN.keySet()) {
            System.out.println(answer + ": " + SEEN.get(answer) + " times");
        }
        String[] due = {"put with fault 1", "put with fault 2", "put with fault 3",
            "put with fault 4", "put with fault 5", "join FULL", "learn FULL", "learn 0", "learn 1",
            "apply FULL", "apply STATE", "isLeast 0", "isLeast 1", "compare 0", "compare 1", "compare 2",
            "compare 3", "origin NONE", "origin FULL", "filled NONE", "joinAll FULL", "undo STATE"};
        for (String answer : due) {
            if (!SEEN.containsKey(answer)) {
                wrong++;
                System.out.println("never seen: " + answer);
            }
        }
        System.out.println(wrong + " runs not as due");
        if (wrong != 0) {
            System.exit(1);
        }
    }

    private void run(long seed) {
        try {
            for (int what = 0; what < 2; what++) {
                int v = below(2);
                log.append("set(" + what + "," + v + ") ");
                check("set", x.set(what, v), model.set(what, v));
            }
            while (calls < CALLS) {
                step();
            }
            check("digest", x.digest(), model.digest());
        } catch (Different d) {
            wrong++;
            System.out.println("seed " + seed + ": " + log + d.getMessage());
        }
    }

    private static final class Different extends RuntimeException {
        Different(String message) {
            super(message);
        }
    }

    private void check(String call, long got, long want) {
        calls++;
        if (got != want) {
            throw new Different(call + " answered " + got + ", due is " + want);
        }
        String name = call.substring(0, call.indexOf('(') < 0 ? call.length() : call.indexOf('('));
        if (want == -1 || want == -2 || want == -3 || want == -9) {
            name += want == -1 ? " BAD" : want == -2 ? " STATE" : want == -3 ? " FULL" : " NONE";
        } else if ("isLeast compare learn covers".contains(name)) {
            name += " " + want;
        }
        SEEN.merge(name, 1, Integer::sum);
    }

    private int below(int n) {
        return random.nextInt(n);
    }

    /** A register; at times one out of range. */
    private int register() {
        return below(200) == 0 ? (below(2) == 0 ? -1 : 8) : below(8);
    }

    /** A register to read, most of the time one that holds a term. */
    private int held() {
        int r = register();
        for (int k = 0; k < 20 && below(50) > 0 && model.size(r, 0) == STATE; k++) {
            r = below(8);
        }
        return r;
    }

    /** A register for what a text or a call makes: these stay apart, most of the time. */
    private int place(boolean ofText) {
        return below(8) == 0 ? register() : ofText ? below(5) : 5 + below(3);
    }

    private int upTo(int most) {
        return below(60) == 0 ? (below(2) == 0 ? -1 : most + 1) : below(most + 1);
    }

    private void step() {
        int choice = below(100);
        if (choice < 22) {
            put();
        } else if (choice < 24) {
            int what = upTo(3);
            int v = what < 2 ? upTo(1) : below(3) == 0 ? upTo(8191) : below(2) == 0 ? 0 : below(1 << symbols);
            log.append("set(").append(what).append(',').append(v).append(") ");
            check("set", x.set(what, v), model.set(what, v));
        } else if (choice < 28) {
            log.append("undo() ");
            check("undo", x.undo(), model.undo());
        } else if (choice < 30) {
            int r = held();
            log.append("empty(").append(r).append(") ");
            check("empty", x.empty(r), model.empty(r));
        } else if (choice < 58) {
            write();
            if (below(3) == 0) {
                check("digest", x.digest(), model.digest());
            }
        } else {
            ask();
        }
    }

    private void write() {
        int a = held();
        int b = held();
        int c = held();
        int d = held();
        int to = place(false);
        switch (below(6)) {
            case 0:
            case 1:
                log.append("join(" + a + "," + b + "," + to + ") ");
                check("join", x.join(a, b, to), model.join(a, b, to));
                askOfJoin(a, b, to);
                break;
            case 2:
                int set = below(4) == 0 ? upTo(255) : 1 << (a & 7) | 1 << (b & 7) | 1 << (c & 7);
                log.append("joinAll(" + set + "," + to + ") ");
                check("joinAll", x.joinAll(set, to), model.joinAll(set, to));
                break;
            case 3:
            case 4:
                int other = place(false);
                int into = place(false);
                log.append("learn(" + a + "," + b + "," + c + "," + d + "," + to + "," + other + ") ");
                check("learn", x.learn(a, b, c, d, to, other), model.learn(a, b, c, d, to, other));
                int t = below(2) == 0 ? a : held();
                log.append("apply(" + to + "," + other + "," + t + "," + into + ") ");
                check("apply", x.apply(to, other, t, into), model.apply(to, other, t, into));
                break;
            default:
                log.append("apply(" + a + "," + b + "," + c + "," + to + ") ");
                check("apply", x.apply(a, b, c, to), model.apply(a, b, c, to));
        }
    }

    private void askOfJoin(int a, int b, int to) {
        for (int k = 0; k < 3; k++) {
            int hole = below(4);
            int what = below(4);
            check("origin(" + a + "," + b + "," + hole + "," + what + ")",
                    x.origin(a, b, hole, what), model.origin(a, b, hole, what));
            check("filled(" + to + "," + a + "," + hole + "," + what + ")",
                    x.filled(to, a, hole, what), model.filled(to, a, hole, what));
        }
        check("isLeast(" + to + "," + a + "," + b + ")", x.isLeast(to, a, b), model.isLeast(to, a, b));
        check("compare(" + to + "," + b + ")", x.compare(to, b), model.compare(to, b));
    }

    private void ask() {
        int a = held();
        int b = held();
        int c = held();
        int hole = below(3) > 0 ? below(4) : upTo(9);
        int what = upTo(below(3) == 0 ? 4 : 3);
        switch (below(10)) {
            case 0:
                int i = below(20) == 0 ? below(50) - 5 : below(8);
                check("node(" + a + "," + i + "," + what + ")", x.node(a, i, what), model.node(a, i, what));
                break;
            case 1:
                check("size(" + a + "," + what + ")", x.size(a, what), model.size(a, what));
                break;
            case 2:
            case 3:
                check("origin(" + a + "," + b + "," + hole + "," + what + ")",
                        x.origin(a, b, hole, what), model.origin(a, b, hole, what));
                break;
            case 4:
                check("covers(" + a + "," + b + ")", x.covers(a, b), model.covers(a, b));
                check("covered(" + a + ")", x.covered(a), model.covered(a));
                break;
            case 5:
            case 6:
                check("filled(" + a + "," + b + "," + hole + "," + what + ")",
                        x.filled(a, b, hole, what), model.filled(a, b, hole, what));
                break;
            case 7:
                check("compare(" + a + "," + b + ")", x.compare(a, b), model.compare(a, b));
                check("told(" + hole + ")", x.told(hole), model.told(hole));
                break;
            default:
                int one = x.covered(c);
                if (one > 0 && below(3) > 0) {
                    a = Integer.numberOfTrailingZeros(one);
                    b = 31 - Integer.numberOfLeadingZeros(one);
                }
                check("isLeast(" + c + "," + a + "," + b + ")", x.isLeast(c, a, b), model.isLeast(c, a, b));
        }
    }

    // ---- texts

    private void put() {
        int choice = below(3) == 0 ? below(10) : theme;
        String text = choice == 0 ? Check.times("a(", below(9)) + Check.times("b,", below(34)) + "b"
                : choice == 1 ? leaves() : choice == 2 ? stretched() : choice == 3 ? pattern() : write(member());
        if (below(8) == 0) {
            text = spoilt(text);
        }
        int r = place(true);
        log.append("put(" + r + ") of " + text + " ");
        check("clear", x.clear(), model.clear());
        for (int i = 0; i < text.length(); i++) {
            check("type", x.type(text.charAt(i)), model.type(text.charAt(i)));
        }
        int answer = model.put(r);
        check(answer <= -10 ? "put with fault " + model.fault() : "put", x.put(r), answer);
        check("fault", x.fault(), model.fault());
        check("digest", x.digest(), model.digest());
    }

    /** A term of one of a few shapes, with leaves of many symbols: joins need many holes. */
    private String leaves() {
        String[] shapes = {"a(b(.,.,.,.,.,.),b(.,.,.,.,.,.))", "a(.,.,.,.,.,.,.,.)",
            "a(b(.,.),c(.,.),d(.,.),e(.,.),f(.,.))", "a(b(.,.,.,.,.),.,.,.,.,.)"};
        StringBuilder text = new StringBuilder(shapes[below(4) == 0 ? below(shapes.length) : shape]);
        int many = below(3) == 0 ? 3 : 13;
        for (int i = 0; i < text.length(); i++) {
            if (text.charAt(i) == '.') {
                text.setCharAt(i, (char) ('a' + below(many)));
            }
        }
        return text.toString();
    }

    /** A term whose nodes have one argument more or less: joins have more nodes than their terms. */
    private String stretched() {
        StringBuilder text = new StringBuilder("a(");
        int n = 2 + below(7);
        for (int k = 0; k < n; k++) {
            text.append(k == 0 ? "b(" : ",b(");
            int m = 1 + below(3);
            text.append(Check.times("c,", m - 1)).append(below(4) == 0 ? "d)" : "c)");
        }
        return text.append(")").toString();
    }

    /** A pattern that covers much, or one for the right side of a rule. */
    private String pattern() {
        String[] patterns = {"0", "a(7*)", "4(7*)", "b(7*)", "4(0,7*)", "4(7*,0)", "a(0,0)", "a(0,0,0,0,0,0)",
            "a(7*,a,a,a,a)", "c(4(7*),4(7*))", "a(a(a(0)))", "a(b(7*),b(7*),b(7*),b(7*))", "4(0,1)", "4(0)",
            "a(7*,0)", "a(0,7*)", "4(b,7*)", "4(5(7*),8*)", "b(0,0,1,1)", "a(b(b(b(b(0)))))", "4(4(7*),7*)"};
        return patterns[below(patterns.length)];
    }

    private String spoilt(String text) {
        int at = below(text.length() + 1);
        String signs = "abm019(),*xn~!";
        String sign = String.valueOf(signs.charAt(below(signs.length())));
        switch (below(3)) {
            case 0:
                return text.substring(0, at) + sign + text.substring(at);
            case 1:
                return text.substring(0, at) + text.substring(Math.min(text.length(), at + 1));
            default:
                return text.substring(0, at) + sign + text.substring(Math.min(text.length(), at + 1));
        }
    }

    private static String write(Model.Node n) {
        StringBuilder text = new StringBuilder();
        text.append((char) ((n.sort == Model.SYMBOL ? 'a' : '0') + n.number));
        text.append(n.sort == Model.SEQUENCE ? "*" : "");
        for (int k = 0; k < n.arguments.size(); k++) {
            text.append(k == 0 ? '(' : ',').append(write(n.arguments.get(k)));
        }
        return text.append(n.arguments.isEmpty() ? "" : ")").toString();
    }

    /** A term: a new one, or one that is made from an older one by a few changes. */
    private Model.Node member() {
        Model.Node n;
        if (family.isEmpty() || below(8) == 0) {
            n = fresh(below(5), true);
            for (int k = 0; k < 8 && write(n).length() > 80; k++) {
                n = fresh(below(4), true);
            }
        } else {
            n = family.get(below(family.size()));
            for (int k = below(4); k >= 0; k--) {
                n = changed(n, true);
            }
        }
        if (n.all().size() < 34 && write(n).length() <= 80) {
            family.add(n);
        }
        return n;
    }

    private Model.Node fresh(int depth, boolean root) {
        int choice = below(12);
        List<Model.Node> arguments = new ArrayList<>();
        int n = depth == 0 ? 0 : below(width + 1);
        if (holes && choice == 0) {
            return new Model.Node(Model.TERM, below(4), arguments);
        }
        if (holes && choice == 1 && !root) {
            return new Model.Node(Model.SEQUENCE, 7 + below(3), arguments);
        }
        for (int k = 0; k < n; k++) {
            arguments.add(fresh(depth - 1, false));
        }
        if (holes && choice == 2 && n > 0) {
            return new Model.Node(Model.HEAD, 4 + below(3), arguments);
        }
        return new Model.Node(Model.SYMBOL, below(symbols), arguments);
    }

    private Model.Node changed(Model.Node n, boolean root) {
        if (!n.arguments.isEmpty() && below(3) > 0) {
            List<Model.Node> arguments = new ArrayList<>(n.arguments);
            int k = below(arguments.size());
            arguments.set(k, changed(arguments.get(k), false));
            return new Model.Node(n.sort, n.number, arguments);
        }
        List<Model.Node> arguments = new ArrayList<>(n.arguments);
        switch (below(6)) {
            case 0:
                return fresh(below(3), root);
            case 1:
                arguments.add(below(arguments.size() + 1), fresh(below(2), false));
                return n.sort == Model.SYMBOL ? new Model.Node(n.sort, n.number, arguments) : n;
            case 2:
                if (!arguments.isEmpty()) {
                    arguments.remove(below(arguments.size()));
                }
                return n.sort == Model.SYMBOL ? new Model.Node(n.sort, n.number, arguments) : n;
            case 3:
                return new Model.Node(Model.SYMBOL, below(symbols), arguments);
            case 4:
                if (!arguments.isEmpty()) {
                    arguments.add(arguments.get(below(arguments.size())));
                }
                return n.sort == Model.SYMBOL ? new Model.Node(n.sort, n.number, arguments) : n;
            default:
                Model.Node copy = family.isEmpty() ? n : family.get(below(family.size()));
                return copy.all().size() < 8 ? copy : n;
        }
    }
}
