import java.util.ArrayList;
import java.util.Collections;
import java.util.Comparator;
import java.util.HashMap;
import java.util.LinkedHashMap;
import java.util.List;
import java.util.Map;
import java.util.TreeMap;
import java.util.TreeSet;

/**
 * The document once more, in another way: terms are trees, equality is that of their texts, matching
 * tries all fillings, and the steps of isLeast() are carried out one by one. The tests compare the
 * program with it.
 */
final class Model {
    static final int BAD = -1, STATE = -2, FULL = -3, NONE = -9;
    static final int SYMBOL = 0, TERM = 1, HEAD = 2, SEQUENCE = 3;

    static final class Node {
        final int sort;
        final int number;
        final List<Node> arguments;

        Node(int sort, int number, List<Node> arguments) {
            this.sort = sort;
            this.number = number;
            this.arguments = arguments;
        }

        boolean hasSequence() {
            for (Node a : arguments) {
                if (a.sort == SEQUENCE) {
                    return true;
                }
            }
            return false;
        }

        String head() {
            return sort == SYMBOL ? String.valueOf((char) ('a' + number)) : "#" + number;
        }

        @Override
        public String toString() {
            String text = head() + (sort == SEQUENCE ? "*" : "");
            return arguments.isEmpty() ? text : text + arguments;
        }

        List<Node> all() {
            List<Node> all = new ArrayList<>();
            collect(all);
            return all;
        }

        private void collect(List<Node> all) {
            all.add(this);
            for (Node a : arguments) {
                a.collect(all);
            }
        }

        int depth() {
            int depth = 0;
            for (Node a : arguments) {
                depth = Math.max(depth, 1 + a.depth());
            }
            return depth;
        }

        int depthOf(Node wanted) {
            if (this == wanted) {
                return 0;
            }
            for (Node a : arguments) {
                int depth = a.depthOf(wanted);
                if (depth >= 0) {
                    return depth + 1;
                }
            }
            return -1;
        }

        TreeMap<Integer, Integer> holes() {
            TreeMap<Integer, Integer> holes = new TreeMap<>();
            for (Node n : all()) {
                if (n.sort != SYMBOL) {
                    holes.put(n.number, n.sort);
                }
            }
            return holes;
        }
    }

    static final class Fault extends RuntimeException {
        final int kind;
        final int position;

        Fault(int kind, int position) {
            super(null, null, false, false);
            this.kind = kind;
            this.position = position;
        }
    }

    static final class Impossible extends RuntimeException {
        Impossible() {
            super(null, null, false, false);
        }
    }

    private static final class Snapshot {
        final Node[] registers;
        final int[] settings;

        Snapshot(Node[] registers, int[] settings) {
            this.registers = registers.clone();
            this.settings = settings.clone();
        }
    }

    private String text = "";
    private int fault = NONE;
    private Node[] registers = new Node[8];
    private int[] settings = new int[4];
    private final List<Snapshot> history = new ArrayList<>();

    // ---- texts

    private static final class Parser {
        final String text;
        int position = 0;
        int nodes = 0;
        final Map<Integer, Integer> sorts = new HashMap<>();

        Parser(String text) {
            this.text = text;
        }

        char at(int i) {
            return i < text.length() ? text.charAt(i) : '\0';
        }

        Node whole() {
            Node node = argument(0, new ArrayList<>());
            if (position != text.length()) {
                throw new Fault(1, position);
            }
            return node;
        }

        Node argument(int depth, List<Node> before) {
            int start = position;
            char c = at(start);
            boolean digit = "0123456789".indexOf(c) >= 0;
            if (!digit && "abcdefghijklm".indexOf(c) < 0) {
                throw new Fault(1, start);
            }
            if (before.size() == 8) {
                throw new Fault(2, start);
            }
            if (nodes == 32 || depth == 8) {
                throw new Fault(3, start);
            }
            int sort = SYMBOL;
            if (digit) {
                sort = at(start + 1) == '(' ? HEAD : at(start + 1) == '*' && depth > 0 ? SEQUENCE : TERM;
                Integer other = sorts.put(c - '0', sort);
                if (other != null && other != sort) {
                    throw new Fault(4, start);
                }
                for (Node b : before) {
                    if (sort == SEQUENCE && b.sort == SEQUENCE) {
                        throw new Fault(4, start);
                    }
                }
            }
            nodes++;
            position += sort == SEQUENCE ? 2 : 1;
            List<Node> arguments = new ArrayList<>();
            if (sort != SEQUENCE && at(position) == '(') {
                do {
                    position++;
                    arguments.add(argument(depth + 1, arguments));
                } while (at(position) == ',');
                if (at(position) != ')') {
                    throw new Fault(1, position);
                }
                position++;
            }
            return new Node(sort, digit ? c - '0' : c - 'a', arguments);
        }
    }

    private static Node flat(Node n, int flatSymbols) {
        List<Node> arguments = new ArrayList<>(n.arguments);
        boolean again = true;
        while (again) {
            again = false;
            for (int k = 0; k < arguments.size() && !again; k++) {
                Node a = arguments.get(k);
                if (n.sort == SYMBOL && a.sort == SYMBOL && a.number == n.number
                        && (flatSymbols >> n.number & 1) == 1 && !a.arguments.isEmpty()) {
                    arguments.remove(k);
                    arguments.addAll(k, a.arguments);
                    again = true;
                }
            }
        }
        List<Node> done = new ArrayList<>();
        for (Node a : arguments) {
            done.add(flat(a, flatSymbols));
        }
        return new Node(n.sort, n.number, done);
    }

    private static boolean tooWide(Node n) {
        for (Node m : n.all()) {
            int sequences = 0;
            for (Node a : m.arguments) {
                sequences += a.sort == SEQUENCE ? 1 : 0;
            }
            if (m.arguments.size() > 8 || sequences > 1) {
                return true;
            }
        }
        return false;
    }

    private static final Comparator<Node> ORDER = (s, t) -> {
        List<Node> mine = s.all();
        List<Node> theirs = t.all();
        if (mine.size() != theirs.size()) {
            return Integer.compare(mine.size(), theirs.size());
        }
        for (int i = 0; i < mine.size(); i++) {
            Node m = mine.get(i);
            Node n = theirs.get(i);
            int[] a = {m.sort, m.number, m.arguments.size()};
            int[] b = {n.sort, n.number, n.arguments.size()};
            for (int k = 0; k < 3; k++) {
                if (a[k] != b[k]) {
                    return Integer.compare(a[k], b[k]);
                }
            }
        }
        return 0;
    };

    private static Node sorted(Node n, int sortedSymbols) {
        List<Node> arguments = new ArrayList<>();
        for (Node a : n.arguments) {
            arguments.add(sorted(a, sortedSymbols));
        }
        Node done = new Node(n.sort, n.number, arguments);
        if (n.sort == SYMBOL && (sortedSymbols >> n.number & 1) == 1 && !done.hasSequence()) {
            arguments.sort(ORDER);
        }
        return done;
    }

    // ---- joining

    private static final class Hole {
        final int number;
        final List<Node> first;
        final List<Node> second;

        Hole(int number, List<Node> first, List<Node> second) {
            this.number = number;
            this.first = first;
            this.second = second;
        }
    }

    private final class Join {
        final Map<String, Hole> table = new LinkedHashMap<>();

        Node pattern(Node t, Node u) {
            Node pattern = of(t, u);
            if (pattern.all().size() > 32) {
                throw new Impossible();
            }
            return pattern;
        }

        Node of(Node t, Node u) {
            boolean symbols = t.sort == SYMBOL && u.sort == SYMBOL;
            int n = t.arguments.size();
            int m = u.arguments.size();
            boolean sequence = t.hasSequence() || u.hasSequence();
            boolean even = n == m && !sequence;
            if (symbols && t.number == u.number && even) {
                return new Node(SYMBOL, t.number, each(t.arguments, u.arguments));
            }
            if (symbols && t.number == u.number && (settings[1] == 1 || sequence)) {
                return aligned(t, u);
            }
            if (symbols && t.number != u.number && settings[0] == 1 && n > 0 && m > 0 && even) {
                int h = hole(HEAD, List.of(t), List.of(u), t.head() + "|" + u.head());
                return new Node(HEAD, h, each(t.arguments, u.arguments));
            }
            return new Node(TERM, hole(TERM, List.of(t), List.of(u), t + "|" + u), List.of());
        }

        List<Node> each(List<Node> mine, List<Node> theirs) {
            List<Node> joins = new ArrayList<>();
            for (int k = 0; k < mine.size(); k++) {
                joins.add(of(mine.get(k), theirs.get(k)));
            }
            return joins;
        }

        Node aligned(Node t, Node u) {
            int n = t.arguments.size();
            int m = u.arguments.size();
            int p = alike(t.arguments, u.arguments, Math.min(n, m));
            List<Node> mine = new ArrayList<>(t.arguments);
            List<Node> theirs = new ArrayList<>(u.arguments);
            Collections.reverse(mine);
            Collections.reverse(theirs);
            int q = alike(mine, theirs, Math.min(n, m) - p);
            List<Node> joins = each(t.arguments.subList(0, p), u.arguments.subList(0, p));
            List<Node> first = t.arguments.subList(p, n - q);
            List<Node> second = u.arguments.subList(p, m - q);
            joins.add(new Node(SEQUENCE, hole(SEQUENCE, first, second, first + "|" + second), List.of()));
            joins.addAll(each(t.arguments.subList(n - q, n), u.arguments.subList(m - q, m)));
            return new Node(SYMBOL, t.number, joins);
        }

        int alike(List<Node> mine, List<Node> theirs, int most) {
            for (int k = 0; k < most; k++) {
                Node a = mine.get(k);
                Node b = theirs.get(k);
                if (a.sort != SYMBOL || b.sort != SYMBOL || a.number != b.number) {
                    return k;
                }
            }
            return most;
        }

        int hole(int sort, List<Node> first, List<Node> second, String pair) {
            String key = sort + ":" + pair;
            if (!table.containsKey(key)) {
                if (table.size() == 10) {
                    throw new Impossible();
                }
                table.put(key, new Hole(table.size(), first, second));
            }
            return table.get(key).number;
        }
    }

    // ---- matching

    /** What fills the holes: by number; a sequence or a term as a list, a head as a list of its node. */
    private static final class Filling {
        final TreeMap<Integer, List<Node>> parts = new TreeMap<>();

        Filling copy() {
            Filling copy = new Filling();
            copy.parts.putAll(parts);
            return copy;
        }
    }

    private static List<Filling> fillings(Node p, Node t, Filling so) {
        List<Filling> found = new ArrayList<>();
        if (t.sort == SEQUENCE || p.sort == SEQUENCE) {
            return found;
        }
        if (p.sort == TERM) {
            return bound(so, p.number, List.of(t), false);
        }
        if (p.sort == SYMBOL && (t.sort != SYMBOL || t.number != p.number)) {
            return found;
        }
        if (p.sort == HEAD && t.sort != SYMBOL && t.sort != HEAD) {
            return found;
        }
        List<Filling> begun = p.sort == SYMBOL ? List.of(so) : bound(so, p.number, List.of(t), true);
        for (Filling f : begun) {
            found.addAll(rows(p.arguments, t.arguments, f));
        }
        return found;
    }

    private static List<Filling> rows(List<Node> ps, List<Node> ts, Filling so) {
        if (ps.isEmpty()) {
            return ts.isEmpty() ? List.of(so) : List.of();
        }
        Node p = ps.get(0);
        List<Node> rest = ps.subList(1, ps.size());
        List<Filling> found = new ArrayList<>();
        if (p.sort == SEQUENCE) {
            for (int n = 0; n <= ts.size(); n++) {
                for (Filling f : bound(so, p.number, ts.subList(0, n), false)) {
                    found.addAll(rows(rest, ts.subList(n, ts.size()), f));
                }
            }
        } else if (!ts.isEmpty()) {
            for (Filling f : fillings(p, ts.get(0), so)) {
                found.addAll(rows(rest, ts.subList(1, ts.size()), f));
            }
        }
        return found;
    }

    private static List<Filling> bound(Filling so, int hole, List<Node> part, boolean head) {
        List<Node> old = so.parts.get(hole);
        if (old == null) {
            Filling more = so.copy();
            more.parts.put(hole, part);
            return List.of(more);
        }
        boolean same = head ? old.get(0).head().equals(part.get(0).head())
                && old.get(0).sort == part.get(0).sort : old.toString().equals(part.toString());
        return same ? List.of(so) : List.of();
    }

    private static Filling match(Node p, Node t) {
        List<Filling> found = fillings(p, t, new Filling());
        if (found.size() > 1) {
            throw new IllegalStateException("two fillings of " + p + " for " + t);
        }
        return found.isEmpty() ? null : found.get(0);
    }

    // ---- steps

    /** Replaces each hole that the map has: by a row of arguments, or a head, see replacedHead. */
    private static List<Node> changed(Node n, int sort, int hole, List<Node> row, Node head) {
        if (n.sort == sort && n.number == hole && row != null) {
            return row;
        }
        List<Node> arguments = new ArrayList<>();
        for (Node a : n.arguments) {
            arguments.addAll(changed(a, sort, hole, row, head));
        }
        boolean other = n.sort == sort && n.number == hole && head != null;
        return List.of(new Node(other ? head.sort : n.sort, other ? head.number : n.number, arguments));
    }

    private static List<Node> steps(Node p) {
        List<Node> steps = new ArrayList<>();
        TreeMap<Integer, Integer> holes = p.holes();
        for (int h : holes.keySet()) {
            int sort = holes.get(h);
            for (int g : holes.keySet()) {
                if (g != h && holes.get(g) == sort) {
                    steps.addAll(changed(p, sort, h, null, new Node(sort, g, List.of())));
                }
            }
            if (sort == TERM) {
                for (int s = 0; s < 13; s++) {
                    List<Node> fresh = new ArrayList<>();
                    for (int n = 0; n <= 8; n++) {
                        Node node = new Node(SYMBOL, s, new ArrayList<>(fresh));
                        steps.addAll(changed(p, TERM, h, List.of(node), null));
                        fresh.add(new Node(TERM, 10 + n, List.of()));
                    }
                }
            } else if (sort == HEAD) {
                for (int s = 0; s < 13; s++) {
                    steps.addAll(changed(p, HEAD, h, null, new Node(SYMBOL, s, List.of())));
                }
            } else {
                Node itself = new Node(SEQUENCE, h, List.of());
                Node fresh = new Node(TERM, 10, List.of());
                steps.addAll(changed(p, SEQUENCE, h, List.of(), null));
                steps.addAll(changed(p, SEQUENCE, h, List.of(fresh, itself), null));
                steps.addAll(changed(p, SEQUENCE, h, List.of(itself, fresh), null));
            }
        }
        return steps;
    }

    // ---- the face

    private static boolean register(int r) {
        return r >= 0 && r <= 7;
    }

    private static int index(Node whole, Node part) {
        List<Node> all = whole.all();
        for (int i = 0; i < all.size(); i++) {
            if (all.get(i) == part) {
                return i;
            }
        }
        throw new IllegalStateException("no part");
    }

    private static int nodes(List<Node> row) {
        int sum = 0;
        for (Node n : row) {
            sum += n.all().size();
        }
        return sum;
    }

    private void record() {
        history.add(new Snapshot(registers, settings));
        if (history.size() > 6) {
            history.remove(0);
        }
    }

    private int keep(Node n, int to) {
        record();
        registers[to] = n;
        return n.all().size();
    }

    int type(int c) {
        if (c < 33 || c > 126) {
            return BAD;
        }
        if (text.length() == 80) {
            return FULL;
        }
        text += (char) c;
        return text.length();
    }

    int clear() {
        int before = text.length();
        text = "";
        return before;
    }

    int put(int r) {
        if (!register(r)) {
            return BAD;
        }
        fault = NONE;
        try {
            Node n = flat(new Parser(text).whole(), settings[2]);
            if (tooWide(n)) {
                throw new Fault(5, text.length());
            }
            return keep(sorted(n, settings[3]), r);
        } catch (Fault f) {
            fault = f.kind;
            return -10 - f.position;
        }
    }

    int fault() {
        return fault;
    }

    int empty(int r) {
        if (!register(r)) {
            return BAD;
        }
        if (registers[r] == null) {
            return STATE;
        }
        record();
        int nodes = registers[r].all().size();
        registers[r] = null;
        return nodes;
    }

    int set(int what, int v) {
        int[] most = {1, 1, 8191, 8191};
        if (what < 0 || what > 3 || v < 0 || v > most[what]) {
            return BAD;
        }
        record();
        int before = settings[what];
        settings[what] = v;
        return before;
    }

    int node(int r, int i, int what) {
        if (!register(r) || i < 0 || what < 0 || what > 4) {
            return BAD;
        }
        if (registers[r] == null) {
            return STATE;
        }
        List<Node> all = registers[r].all();
        if (i >= all.size()) {
            return NONE;
        }
        Node n = all.get(i);
        int[] properties =
                {n.sort, n.number, n.arguments.size(), registers[r].depthOf(n), n.all().size()};
        return properties[what];
    }

    int size(int r, int what) {
        if (!register(r) || what < 0 || what > 4) {
            return BAD;
        }
        Node t = registers[r];
        if (t == null) {
            return STATE;
        }
        int symbols = 0;
        for (Node n : t.all()) {
            symbols += n.sort == SYMBOL ? 1 : 0;
        }
        int sum = 0;
        for (int h : t.holes().keySet()) {
            sum += h;
        }
        int[] properties = {t.all().size(), symbols, t.holes().size(), t.depth(), sum};
        return properties[what];
    }

    int join(int a, int b, int to) {
        if (!register(a) || !register(b) || !register(to)) {
            return BAD;
        }
        if (registers[a] == null || registers[b] == null) {
            return STATE;
        }
        try {
            return keep(new Join().pattern(registers[a], registers[b]), to);
        } catch (Impossible e) {
            return FULL;
        }
    }

    int joinAll(int set, int to) {
        if (set < 0 || set > 255 || !register(to)) {
            return BAD;
        }
        List<Node> terms = new ArrayList<>();
        for (int r = 0; r < 8; r++) {
            if ((set >> r & 1) == 1) {
                terms.add(registers[r]);
            }
        }
        if (terms.size() < 2 || terms.contains(null)) {
            return STATE;
        }
        try {
            Node pattern = terms.get(0);
            for (Node t : terms.subList(1, terms.size())) {
                pattern = new Join().pattern(pattern, t);
            }
            return keep(pattern, to);
        } catch (Impossible e) {
            return FULL;
        }
    }

    int origin(int a, int b, int hole, int what) {
        if (!register(a) || !register(b) || hole < 0 || hole > 9 || what < 0 || what > 3) {
            return BAD;
        }
        if (registers[a] == null || registers[b] == null) {
            return STATE;
        }
        Join join = new Join();
        Node pattern;
        try {
            pattern = join.pattern(registers[a], registers[b]);
        } catch (Impossible e) {
            return FULL;
        }
        for (Hole h : join.table.values()) {
            if (h.number == hole) {
                List<Node> part = what < 2 ? h.first : h.second;
                if (what == 1 || what == 3) {
                    return pattern.holes().get(hole) == HEAD ? 1 : nodes(part);
                }
                return part.isEmpty() ? NONE : index(registers[what < 2 ? a : b], part.get(0));
            }
        }
        return NONE;
    }

    int covers(int p, int t) {
        if (!register(p) || !register(t)) {
            return BAD;
        }
        if (registers[p] == null || registers[t] == null) {
            return STATE;
        }
        return match(registers[p], registers[t]) != null ? 1 : 0;
    }

    int filled(int p, int t, int hole, int what) {
        if (!register(p) || !register(t) || hole < 0 || hole > 9 || what < 0 || what > 2) {
            return BAD;
        }
        if (registers[p] == null || registers[t] == null) {
            return STATE;
        }
        Filling filling = match(registers[p], registers[t]);
        if (filling == null || !filling.parts.containsKey(hole)) {
            return NONE;
        }
        List<Node> part = filling.parts.get(hole);
        if (what == 0) {
            return part.isEmpty() ? NONE : index(registers[t], part.get(0));
        }
        boolean head = registers[p].holes().get(hole) == HEAD;
        return what == 2 ? part.size() : head ? 1 : nodes(part);
    }

    int compare(int p, int q) {
        if (!register(p) || !register(q)) {
            return BAD;
        }
        if (registers[p] == null || registers[q] == null) {
            return STATE;
        }
        boolean there = covers(p, q) == 1;
        boolean back = covers(q, p) == 1;
        return there && back ? 0 : there ? 1 : back ? 2 : 3;
    }

    int covered(int p) {
        if (!register(p)) {
            return BAD;
        }
        if (registers[p] == null) {
            return STATE;
        }
        int set = 0;
        for (int r = 0; r < 8; r++) {
            set += registers[r] != null && covers(p, r) == 1 ? 1 << r : 0;
        }
        return set;
    }

    int isLeast(int p, int a, int b) {
        if (!register(p) || !register(a) || !register(b)) {
            return BAD;
        }
        if (registers[p] == null || registers[a] == null || registers[b] == null) {
            return STATE;
        }
        if (covers(p, a) == 0 || covers(p, b) == 0) {
            return 0;
        }
        for (Node step : steps(registers[p])) {
            if (match(step, registers[a]) != null && match(step, registers[b]) != null) {
                return 0;
            }
        }
        return 1;
    }

    int learn(int before, int after, int b, int c, int left, int right) {
        int[] all = {before, after, b, c, left, right};
        for (int r : all) {
            if (!register(r)) {
                return BAD;
            }
        }
        if (left == right) {
            return BAD;
        }
        for (int k = 0; k < 4; k++) {
            if (registers[all[k]] == null) {
                return STATE;
            }
        }
        try {
            Join join = new Join();
            Node from = join.pattern(registers[before], registers[b]);
            Node to = join.pattern(registers[after], registers[c]);
            record();
            registers[left] = from;
            registers[right] = to;
            return new TreeSet<>(from.holes().keySet()).containsAll(to.holes().keySet()) ? 1 : 0;
        } catch (Impossible e) {
            return FULL;
        }
    }

    int apply(int left, int right, int t, int to) {
        if (!register(left) || !register(right) || !register(t) || !register(to)) {
            return BAD;
        }
        Node from = registers[left];
        Node into = registers[right];
        if (from == null || into == null || registers[t] == null) {
            return STATE;
        }
        Filling filling = match(from, registers[t]);
        if (filling == null) {
            return STATE;
        }
        for (Map.Entry<Integer, Integer> hole : into.holes().entrySet()) {
            if (!hole.getValue().equals(from.holes().get(hole.getKey()))) {
                return STATE;
            }
        }
        Node result = rewritten(into, filling).get(0);
        for (Node n : result.all()) {
            if (n.sort == HEAD && n.arguments.isEmpty()) {
                return STATE;
            }
        }
        for (Node n : result.all()) {
            if (n.arguments.size() > 8) {
                return FULL;
            }
        }
        return result.all().size() > 32 || result.depth() > 7 ? FULL : keep(result, to);
    }

    private static List<Node> rewritten(Node n, Filling filling) {
        if (n.sort == TERM || n.sort == SEQUENCE) {
            List<Node> copies = new ArrayList<>();
            for (Node part : filling.parts.get(n.number)) {
                copies.add(copy(part));
            }
            return copies;
        }
        List<Node> arguments = new ArrayList<>();
        for (Node a : n.arguments) {
            arguments.addAll(rewritten(a, filling));
        }
        Node head = n.sort == SYMBOL ? n : filling.parts.get(n.number).get(0);
        return List.of(new Node(head.sort, head.number, arguments));
    }

    /** Nodes are told apart by which object they are, so that no two places may share one. */
    private static Node copy(Node n) {
        List<Node> arguments = new ArrayList<>();
        for (Node a : n.arguments) {
            arguments.add(copy(a));
        }
        return new Node(n.sort, n.number, arguments);
    }

    int told(int what) {
        if (what < 0 || what > 7) {
            return BAD;
        }
        int held = 0;
        int nodes = 0;
        for (Node n : registers) {
            held += n != null ? 1 : 0;
            nodes += n != null ? n.all().size() : 0;
        }
        int[] numbers = {settings[0], settings[1], settings[2], settings[3], held, nodes,
            text.length(), history.size()};
        return numbers[what];
    }

    int undo() {
        if (history.isEmpty()) {
            return STATE;
        }
        Snapshot latest = history.remove(history.size() - 1);
        registers = latest.registers;
        settings = latest.settings;
        return history.size();
    }

    long digest() {
        List<Long> values = new ArrayList<>();
        for (int what = 0; what <= 7; what++) {
            values.add((long) told(what));
        }
        for (int r = 0; r < 8; r++) {
            if (registers[r] != null) {
                values.add((long) r);
                for (int what = 0; what <= 4; what++) {
                    values.add((long) size(r, what));
                }
                for (int i = 0; i < size(r, 0); i++) {
                    for (int what = 0; what <= 4; what++) {
                        values.add((long) node(r, i, what));
                    }
                }
                values.add((long) covered(r));
            }
        }
        values.add((long) fault());
        long h = 17369;
        for (long v : values) {
            h = h * 31 + v;
        }
        return h;
    }
}
