/**
 * Least general patterns of terms: terms are read from texts, put in order and flattened, joined to
 * the least general pattern that covers both, matched, compared, and learnt from as rules.
 */
public final class LeastPatterns {
    /** An argument is out of range. */
    public static final int BAD = -1;
    /** The call is not possible at present. */
    public static final int STATE = -2;
    /** A term would be too large. */
    public static final int FULL = -3;
    /** There is no such value. */
    public static final int NONE = -9;

    private static final int REGISTERS = 8;
    private static final int SETTINGS = 4;
    private static final int SYMBOLS = 13;
    private static final int HOLES = 10;
    private static final int NODES = 32;
    private static final int ARGUMENTS = 8;
    private static final int DEPTH = 7;
    private static final int BYTES = 80;
    private static final int REMEMBERED = 6;

    private static final int UNLIKE_HEADS = 0;
    private static final int ALIGNED = 1;
    private static final int FLAT = 2;
    private static final int SORTED = 3;

    private static final int SYMBOL = 0;
    private static final int TERM_HOLE = 1;
    private static final int HEAD_HOLE = 2;
    private static final int SEQUENCE_HOLE = 3;
    private static final int NO_SORT = -1;

    private static final int FAULT_BYTE = 1;
    private static final int FAULT_ARGUMENT = 2;
    private static final int FAULT_NODE = 3;
    private static final int FAULT_HOLE = 4;
    private static final int FAULT_FLAT = 5;

    private final int[] text = new int[BYTES];
    private int bytes = 0;
    private int faultKind = NONE;
    private final State now = new State();
    private final State[] past = new State[REMEMBERED];
    private int remembered = 0;
    private final Reader reader = new Reader();
    private final Shaper shaper = new Shaper();
    private final Joiner joiner = new Joiner();
    private final Matcher matcher = new Matcher();
    private final Matcher second = new Matcher();

    /** Makes an object with empty registers, the settings as at first, and an empty text buffer. */
    public LeastPatterns() {
        for (int k = 0; k < past.length; k++) {
            past[k] = new State();
        }
    }

    /** Appends a byte to the text buffer. */
    public int type(int c) {
        if (c < 33 || c > 126) {
            return BAD;
        }
        if (outside(bytes, text.length - 1)) {
            return FULL;
        }
        text[bytes] = c;
        bytes++;
        return bytes;
    }

    /** Empties the text buffer. */
    public int clear() {
        int before = bytes;
        bytes = 0;
        return before;
    }

    /** Reads the text buffer as a term into a register. */
    public int put(int r) {
        if (noRegister(r)) {
            return BAD;
        }
        faultKind = NONE;
        Term term = reader.read(text, bytes);
        if (term == null) {
            faultKind = reader.fault;
            return -10 - reader.position;
        }
        Term flat = shaper.flattened(term, now.setting(FLAT));
        if (flat == null) {
            faultKind = FAULT_FLAT;
            return -10 - bytes;
        }
        shaper.arrange(flat, now.setting(SORTED));
        remember();
        now.hold(r, flat);
        return flat.count;
    }

    /** Tells the kind of the fault that the latest put() found. */
    public int fault() {
        return faultKind;
    }

    /** Empties a register. */
    public int empty(int r) {
        if (noRegister(r)) {
            return BAD;
        }
        Term term = now.term(r);
        if (term == null) {
            return STATE;
        }
        remember();
        now.hold(r, null);
        return term.count;
    }

    /** Changes a setting. */
    public int set(int what, int v) {
        if (outside(what, SETTINGS - 1)) {
            return BAD;
        }
        boolean mask = what == FLAT || what == SORTED;
        if (outside(v, mask ? (1 << SYMBOLS) - 1 : 1)) {
            return BAD;
        }
        int before = now.setting(what);
        remember();
        now.choose(what, v);
        return before;
    }

    /** Tells a property of a node. */
    public int node(int r, int i, int what) {
        if (noRegister(r) || i < 0 || outside(what, 4)) {
            return BAD;
        }
        Term term = now.term(r);
        if (term == null) {
            return STATE;
        }
        if (i >= term.count) {
            return NONE;
        }
        switch (what) {
            case 0:
                return term.sortOf(i);
            case 1:
                return term.numberOf(i);
            case 2:
                return term.argumentsOf(i);
            case 3:
                return term.depthOf(i);
            default:
                return term.spanOf(i);
        }
    }

    /** Tells a property of a term. */
    public int size(int r, int what) {
        if (noRegister(r) || outside(what, 4)) {
            return BAD;
        }
        Term term = now.term(r);
        if (term == null) {
            return STATE;
        }
        switch (what) {
            case 0:
                return term.count;
            case 1:
                return term.symbols();
            case 2:
                return Integer.bitCount(term.holes());
            case 3:
                return term.greatestDepth();
            default:
                return sumOfMembers(term.holes());
        }
    }

    /** Joins the terms of two registers. */
    public int join(int a, int b, int to) {
        if (noRegister(a) || noRegister(b) || noRegister(to)) {
            return BAD;
        }
        Term first = now.term(a);
        Term other = now.term(b);
        if (first == null || other == null) {
            return STATE;
        }
        joiner.begin(now);
        return keep(joiner.joined(first, other), to);
    }

    /** Joins the terms of several registers in ascending order. */
    public int joinAll(int set, int to) {
        if (outside(set, (1 << REGISTERS) - 1) || noRegister(to)) {
            return BAD;
        }
        if (Integer.bitCount(set) < 2 || (set & ~now.registersHeld()) != 0) {
            return STATE;
        }
        Term pattern = null;
        for (int r = 0; r < REGISTERS; r++) {
            Term term = now.term(r);
            if ((set >> r & 1) == 0 || term == null) {
                continue;
            }
            if (pattern == null) {
                pattern = term;
                continue;
            }
            joiner.begin(now);
            pattern = joiner.joined(pattern, term);
            if (pattern == null) {
                return FULL;
            }
        }
        return keep(pattern, to);
    }

    /** Tells what a hole of the join of two registers stands for. */
    public int origin(int a, int b, int hole, int what) {
        if (noRegister(a) || noRegister(b) || outside(hole, HOLES - 1) || outside(what, 3)) {
            return BAD;
        }
        Term first = now.term(a);
        Term other = now.term(b);
        if (first == null || other == null) {
            return STATE;
        }
        joiner.begin(now);
        if (joiner.joined(first, other) == null) {
            return FULL;
        }
        return joiner.meaning(hole, what);
    }

    /** Tells whether a pattern covers a term. */
    public int covers(int p, int t) {
        if (noRegister(p) || noRegister(t)) {
            return BAD;
        }
        Term pattern = now.term(p);
        Term term = now.term(t);
        if (pattern == null || term == null) {
            return STATE;
        }
        return matcher.matches(pattern, term) ? 1 : 0;
    }

    /** Tells by what a hole is filled when a pattern is matched with a term. */
    public int filled(int p, int t, int hole, int what) {
        if (noRegister(p) || noRegister(t) || outside(hole, HOLES - 1) || outside(what, 2)) {
            return BAD;
        }
        Term pattern = now.term(p);
        Term term = now.term(t);
        if (pattern == null || term == null) {
            return STATE;
        }
        return matcher.matches(pattern, term) ? matcher.filling(hole, what) : NONE;
    }

    /** Compares two patterns. */
    public int compare(int p, int q) {
        if (noRegister(p) || noRegister(q)) {
            return BAD;
        }
        Term one = now.term(p);
        Term other = now.term(q);
        if (one == null || other == null) {
            return STATE;
        }
        boolean there = matcher.matches(one, other);
        boolean back = matcher.matches(other, one);
        if (there) {
            return back ? 0 : 1;
        }
        return back ? 2 : 3;
    }

    /** Tells which registers a pattern covers. */
    public int covered(int p) {
        if (noRegister(p)) {
            return BAD;
        }
        Term pattern = now.term(p);
        if (pattern == null) {
            return STATE;
        }
        int set = 0;
        for (int r = 0; r < REGISTERS; r++) {
            Term term = now.term(r);
            if (term != null && matcher.matches(pattern, term)) {
                set |= 1 << r;
            }
        }
        return set;
    }

    /** Tells whether a pattern cannot be made more special by one step and still cover two terms. */
    public int isLeast(int p, int a, int b) {
        if (noRegister(p) || noRegister(a) || noRegister(b)) {
            return BAD;
        }
        Term pattern = now.term(p);
        Term one = now.term(a);
        Term other = now.term(b);
        if (pattern == null || one == null || other == null) {
            return STATE;
        }
        if (!matcher.matches(pattern, one) || !second.matches(pattern, other)) {
            return 0;
        }
        for (int h = 0; h < HOLES; h++) {
            if (matcher.canNarrow(h, second) || matcher.canMerge(h, second)) {
                return 0;
            }
        }
        return 1;
    }

    /** Learns a rule from two pairs of terms. */
    public int learn(int before, int after, int b, int c, int left, int right) {
        if (noRegister(before) || noRegister(after) || noRegister(b) || noRegister(c)
                || noRegister(left) || noRegister(right) || left == right) {
            return BAD;
        }
        Term firstBefore = now.term(before);
        Term firstAfter = now.term(after);
        Term secondBefore = now.term(b);
        Term secondAfter = now.term(c);
        if (firstBefore == null || firstAfter == null || secondBefore == null || secondAfter == null) {
            return STATE;
        }
        joiner.begin(now);
        Term from = joiner.joined(firstBefore, secondBefore);
        if (from == null) {
            return FULL;
        }
        Term to = joiner.joined(firstAfter, secondAfter);
        if (to == null) {
            return FULL;
        }
        remember();
        now.hold(left, from);
        now.hold(right, to);
        return (to.holes() & ~from.holes()) == 0 ? 1 : 0;
    }

    /** Applies a rule to a term. */
    public int apply(int left, int right, int t, int to) {
        if (noRegister(left) || noRegister(right) || noRegister(t) || noRegister(to)) {
            return BAD;
        }
        Term from = now.term(left);
        Term into = now.term(right);
        Term term = now.term(t);
        if (from == null || into == null || term == null) {
            return STATE;
        }
        if (!matcher.matches(from, term) || !matcher.canFill(into)) {
            return STATE;
        }
        return keep(matcher.rewritten(into), to);
    }

    /** Tells one of several numbers of the whole object. */
    public int told(int what) {
        if (outside(what, 7)) {
            return BAD;
        }
        if (what < SETTINGS) {
            return now.setting(what);
        }
        switch (what) {
            case 4:
                return Integer.bitCount(now.registersHeld());
            case 5:
                return now.nodes();
            case 6:
                return bytes;
            default:
                return remembered;
        }
    }

    /** Returns to the latest remembered state. */
    public int undo() {
        if (remembered <= 0 || remembered > past.length) {
            return STATE;
        }
        State latest = past[remembered - 1];
        if (latest == null) {
            return STATE;
        }
        now.copyFrom(latest);
        remembered--;
        return remembered;
    }

    /** Computes a hash of the whole object. */
    public long digest() {
        long h = 17369;
        for (int what = 0; what <= 7; what++) {
            h = 31 * h + told(what);
        }
        for (int r = 0; r < REGISTERS; r++) {
            Term term = now.term(r);
            if (term == null) {
                continue;
            }
            h = 31 * h + r;
            for (int what = 0; what <= 4; what++) {
                h = 31 * h + size(r, what);
            }
            for (int i = 0; i < term.count; i++) {
                for (int what = 0; what <= 4; what++) {
                    h = 31 * h + node(r, i, what);
                }
            }
            h = 31 * h + covered(r);
        }
        return 31 * h + faultKind;
    }

    private static boolean outside(int v, int greatest) {
        return v < 0 || v > greatest;
    }

    private static boolean noRegister(int r) {
        return outside(r, REGISTERS - 1);
    }

    private static int sumOfMembers(int set) {
        int sum = 0;
        for (int k = 0; k < 32; k++) {
            sum += (set >> k & 1) * k;
        }
        return sum;
    }

    /** Puts a new term into a register; null stands for a term that would be too large. */
    private int keep(Term term, int to) {
        if (term == null) {
            return FULL;
        }
        remember();
        now.hold(to, term);
        return term.count;
    }

    private void remember() {
        if (remembered >= past.length) {
            State oldest = past[0];
            for (int k = 1; k < past.length; k++) {
                past[k - 1] = past[k];
            }
            past[past.length - 1] = oldest;
            remembered = past.length - 1;
        }
        if (outside(remembered, past.length - 1)) {
            return;
        }
        State latest = past[remembered];
        if (latest != null) {
            latest.copyFrom(now);
            remembered++;
        }
    }

    /** The registers and settings. Terms in registers never change, so that states can share them. */
    private static final class State {
        private final Term[] registers = new Term[REGISTERS];
        private final int[] settings = new int[SETTINGS];

        Term term(int r) {
            return r >= 0 && r < registers.length ? registers[r] : null;
        }

        void hold(int r, Term term) {
            if (r >= 0 && r < registers.length) {
                registers[r] = term;
            }
        }

        int setting(int what) {
            return what >= 0 && what < settings.length ? settings[what] : 0;
        }

        void choose(int what, int v) {
            if (what >= 0 && what < settings.length) {
                settings[what] = v;
            }
        }

        int registersHeld() {
            int set = 0;
            for (int r = 0; r < registers.length; r++) {
                if (registers[r] != null) {
                    set |= 1 << r;
                }
            }
            return set;
        }

        int nodes() {
            int sum = 0;
            for (int r = 0; r < registers.length; r++) {
                Term term = registers[r];
                if (term != null) {
                    sum += term.count;
                }
            }
            return sum;
        }

        void copyFrom(State state) {
            for (int r = 0; r < registers.length; r++) {
                registers[r] = state.term(r);
            }
            for (int what = 0; what < settings.length; what++) {
                settings[what] = state.setting(what);
            }
        }
    }

    /**
     * A term, as the row of its nodes in the order in which they are written. A node's code holds
     * its sort, its number and how many arguments it has, from the highest bits down, so that codes
     * compare as the document orders nodes.
     */
    private static final class Term {
        private final int[] codes = new int[NODES];
        private final int[] spans = new int[NODES];
        private final int[] depths = new int[NODES];
        private int count = 0;

        int sortOf(int i) {
            return i >= 0 && i < count ? codes[i] >> 8 : NO_SORT;
        }

        int numberOf(int i) {
            return i >= 0 && i < count ? codes[i] >> 4 & 15 : 0;
        }

        /** The sort and the number in one. */
        int headOf(int i) {
            return i >= 0 && i < count ? codes[i] >> 4 : NO_SORT;
        }

        int argumentsOf(int i) {
            return i >= 0 && i < count ? codes[i] & 15 : 0;
        }

        int spanOf(int i) {
            return i >= 0 && i < count ? spans[i] : 0;
        }

        int depthOf(int i) {
            return i >= 0 && i < count ? depths[i] : 0;
        }

        /** Appends a node; false if there is no room for it. */
        boolean append(int head, int arguments) {
            if (head < 0 || outside(count, codes.length - 1) || outside(arguments, ARGUMENTS)) {
                return false;
            }
            codes[count] = head << 4 | arguments;
            count++;
            return true;
        }

        /** Appends nodes of another term; false if there is no room for them. */
        boolean appendNodes(Term other, int from, int howMany) {
            for (int k = from; k < from + howMany; k++) {
                if (!append(other.headOf(k), other.argumentsOf(k))) {
                    return false;
                }
            }
            return true;
        }

        /** Tells a node that one more argument of it has come. */
        void countArgument(int i) {
            if (i >= 0 && i < count && argumentsOf(i) < ARGUMENTS) {
                codes[i]++;
            }
        }

        /** Finds spans and depths, when all nodes have come. */
        void settle() {
            for (int i = count - 1; i >= 0; i--) {
                int next = i + 1;
                for (int k = argumentsOf(i); k > 0; k--) {
                    next += spanOf(next);
                }
                spans[i] = next - i;
            }
            for (int i = 0; i < count; i++) {
                int next = i + 1;
                for (int k = argumentsOf(i); k > 0; k--) {
                    if (next < count) {
                        depths[next] = depthOf(i) + 1;
                    }
                    next += spanOf(next);
                }
            }
        }

        /** The index of the k-th argument of a node; behind all of them if it has just k. */
        int argument(int i, int k) {
            int next = i + 1;
            for (int passed = 0; passed < k; passed++) {
                next += spanOf(next);
            }
            return next;
        }

        /** Which argument of a node is a sequence hole; -1 if none is. */
        int sequencePlace(int i) {
            int next = i + 1;
            int arguments = argumentsOf(i);
            for (int k = 0; k < arguments; k++) {
                if (sortOf(next) == SEQUENCE_HOLE) {
                    return k;
                }
                next += spanOf(next);
            }
            return -1;
        }

        /** Compares nodes from i on with nodes of a term from j on; 0 if all are alike. */
        int compareNodes(int i, Term other, int j, int howMany) {
            if (i < 0 || i > count - howMany || j < 0 || j > other.count - howMany) {
                return 1;
            }
            for (int k = 0; k < howMany; k++) {
                int mine = codes[i + k];
                int theirs = other.codes[j + k];
                if (mine != theirs) {
                    return mine < theirs ? -1 : 1;
                }
            }
            return 0;
        }

        int symbols() {
            int sum = 0;
            for (int i = 0; i < count; i++) {
                sum += sortOf(i) == SYMBOL ? 1 : 0;
            }
            return sum;
        }

        /** The set of the holes, as a bit mask. */
        int holes() {
            int set = 0;
            for (int i = 0; i < count; i++) {
                if (sortOf(i) != SYMBOL) {
                    set |= 1 << numberOf(i);
                }
            }
            return set;
        }

        int greatestDepth() {
            int greatest = 0;
            for (int i = 0; i < count; i++) {
                greatest = Math.max(greatest, depthOf(i));
            }
            return greatest;
        }
    }

    /** Reads a term from a text, or finds its first fault. */
    private static final class Reader {
        private int[] text = new int[0];
        private int bytes = 0;
        private int position = 0;
        private int fault = NONE;
        private Term term = new Term();
        private int open = 0;
        private final int[] openNodes = new int[DEPTH + 1];
        private final boolean[] openSequences = new boolean[DEPTH + 1];
        private final int[] holeSorts = new int[HOLES];

        /** Returns the term, or null if there is a fault. */
        Term read(int[] source, int howMany) {
            text = source;
            bytes = howMany;
            position = 0;
            fault = NONE;
            open = 0;
            term = new Term();
            for (int h = 0; h < holeSorts.length; h++) {
                holeSorts[h] = NO_SORT;
            }
            // each round reads one byte at least
            for (int round = 0; round <= howMany; round++) {
                if (!readHead()) {
                    return null;
                }
                if (opens()) {
                    continue;
                }
                closeNodes();
                if (open == 0) {
                    return ends() ? term : null;
                }
                if (!readComma()) {
                    return null;
                }
            }
            return null;
        }

        private int byteAt(int i) {
            return i >= 0 && i < bytes && i < text.length ? text[i] : 0;
        }

        private boolean faulty(int kind) {
            fault = kind;
            return false;
        }

        /** Reads a symbol, or a hole with the star behind it. */
        private boolean readHead() {
            int c = byteAt(position);
            boolean symbol = c >= 'a' && c < 'a' + SYMBOLS;
            boolean hole = c >= '0' && c <= '9';
            if (!symbol && !hole) {
                return faulty(FAULT_BYTE);
            }
            int owner = open > 0 && open <= openNodes.length ? openNodes[open - 1] : -1;
            if (owner >= 0 && term.argumentsOf(owner) >= ARGUMENTS) {
                return faulty(FAULT_ARGUMENT);
            }
            if (term.count >= NODES || open > DEPTH) {
                return faulty(FAULT_NODE);
            }
            int number = symbol ? c - 'a' : c - '0';
            int sort = symbol ? SYMBOL : holeSort(byteAt(position + 1));
            if (hole && !takeHole(number, sort)) {
                return faulty(FAULT_HOLE);
            }
            term.countArgument(owner);
            term.append(sort << 4 | number, 0);
            position += sort == SEQUENCE_HOLE ? 2 : 1;
            return true;
        }

        /** The sort of a hole, by the byte behind its digit; only an argument can be a sequence. */
        private int holeSort(int behind) {
            if (behind == '(') {
                return HEAD_HOLE;
            }
            return behind == '*' && open > 0 ? SEQUENCE_HOLE : TERM_HOLE;
        }

        /** Notes a hole's sort; false if it had another one, or its node has a sequence hole already. */
        private boolean takeHole(int number, int sort) {
            if (outside(number, holeSorts.length - 1)) {
                return false;
            }
            if (holeSorts[number] != NO_SORT && holeSorts[number] != sort) {
                return false;
            }
            if (sort == SEQUENCE_HOLE && open > 0 && open <= openSequences.length) {
                if (openSequences[open - 1]) {
                    return false;
                }
                openSequences[open - 1] = true;
            }
            holeSorts[number] = sort;
            return true;
        }

        /** Goes into the arguments of the latest node, if it has any. */
        private boolean opens() {
            if (byteAt(position) != '(' || open < 0 || open >= openNodes.length
                    || open >= openSequences.length
                    || term.sortOf(term.count - 1) == SEQUENCE_HOLE) {
                return false;
            }
            openNodes[open] = term.count - 1;
            openSequences[open] = false;
            open++;
            position++;
            return true;
        }

        private void closeNodes() {
            while (open > 0 && byteAt(position) == ')') {
                open--;
                position++;
            }
        }

        private boolean ends() {
            if (position < bytes) {
                return faulty(FAULT_BYTE);
            }
            term.settle();
            return true;
        }

        private boolean readComma() {
            if (byteAt(position) != ',') {
                return faulty(FAULT_BYTE);
            }
            position++;
            return true;
        }
    }

    /** Flattens and sorts terms. */
    private static final class Shaper {
        private final boolean[] dissolved = new boolean[NODES];
        private final int[] arguments = new int[NODES];
        private final int[] sequences = new int[NODES];
        private final int[] starts = new int[ARGUMENTS];
        private final int[] codes = new int[NODES];

        /** Returns the term with the arguments of flat symbols flattened, or null if that is a fault. */
        Term flattened(Term term, int flatSymbols) {
            for (int i = 0; i < NODES; i++) {
                dissolved[i] = false;
            }
            for (int i = term.count - 1; i >= 0; i--) {
                if (!countArguments(term, i, flatSymbols)) {
                    return null;
                }
            }
            Term flat = new Term();
            for (int i = 0; i < term.count && i < NODES; i++) {
                if (!dissolved[i]) {
                    flat.append(term.headOf(i), arguments[i]);
                }
            }
            flat.settle();
            return flat;
        }

        /**
         * Finds what arguments a node has when it is flat; its inner nodes have been done before. A
         * dissolved node has no more of them than the node that gets them, so it may be refused, too.
         */
        private boolean countArguments(Term term, int i, int flatSymbols) {
            if (outside(i, NODES - 1)) {
                return false;
            }
            boolean flat = term.sortOf(i) == SYMBOL && (flatSymbols >> term.numberOf(i) & 1) == 1;
            int sum = 0;
            int holes = 0;
            int next = i + 1;
            for (int k = term.argumentsOf(i); k > 0 && next < NODES; k--) {
                if (flat && term.headOf(next) == term.headOf(i) && term.argumentsOf(next) > 0) {
                    dissolved[next] = true;
                    sum += arguments[next];
                    holes += sequences[next];
                } else {
                    sum++;
                    holes += term.sortOf(next) == SEQUENCE_HOLE ? 1 : 0;
                }
                next += term.spanOf(next);
            }
            arguments[i] = sum;
            sequences[i] = holes;
            return sum <= ARGUMENTS && holes <= 1;
        }

        /** Puts the arguments of sorted symbols in order, those of inner nodes first. */
        void arrange(Term term, int sortedSymbols) {
            // only an outer node's arguments are asked for their spans then, and those stay
            for (int i = term.count - 1; i >= 0; i--) {
                if (term.sortOf(i) == SYMBOL && (sortedSymbols >> term.numberOf(i) & 1) == 1
                        && term.argumentsOf(i) > 1 && term.sequencePlace(i) < 0) {
                    orderArguments(term, i);
                    moveArguments(term, i);
                }
            }
            term.settle();
        }

        /** Finds the order of a node's arguments by insertion, which leaves equal ones as they are. */
        private void orderArguments(Term term, int i) {
            int next = i + 1;
            int howMany = Math.min(term.argumentsOf(i), starts.length);
            for (int k = 0; k < howMany; k++) {
                int place = k;
                while (place > 0 && precedes(term, next, starts[place - 1])) {
                    starts[place] = starts[place - 1];
                    place--;
                }
                starts[place] = next;
                next += term.spanOf(next);
            }
        }

        private static boolean precedes(Term term, int i, int j) {
            int mine = term.spanOf(i);
            int theirs = term.spanOf(j);
            return mine != theirs ? mine < theirs : term.compareNodes(i, term, j, mine) < 0;
        }

        /** Writes a node's arguments anew in the order that has been found. */
        private void moveArguments(Term term, int i) {
            int howMany = Math.min(term.argumentsOf(i), starts.length);
            int to = 0;
            for (int k = 0; k < howMany; k++) {
                int from = starts[k];
                int end = from + term.spanOf(from);
                for (int at = from; at < end && at < term.count && to < NODES; at++) {
                    codes[to] = term.codes[at];
                    to++;
                }
            }
            for (int k = 0; k < to && i + 1 + k < term.count; k++) {
                term.codes[i + 1 + k] = codes[k];
            }
        }
    }

    /** Joins terms, and holds the table of holes. */
    private static final class Joiner {
        private boolean unlikeHeads = false;
        private boolean aligned = false;
        private Term first = new Term();
        private Term second = new Term();
        private Term pattern = new Term();
        private int holes = 0;
        private final int[] sorts = new int[HOLES];
        private final Term[] firstTerms = new Term[HOLES];
        private final int[] firstIndices = new int[HOLES];
        private final int[] firstNodes = new int[HOLES];
        private final Term[] secondTerms = new Term[HOLES];
        private final int[] secondIndices = new int[HOLES];
        private final int[] secondNodes = new int[HOLES];

        /** Begins with a table of holes that is empty. */
        void begin(State state) {
            unlikeHeads = state.setting(UNLIKE_HEADS) == 1;
            aligned = state.setting(ALIGNED) == 1;
            holes = 0;
        }

        /** Returns the join with the table as it is, or null if it is not possible. */
        Term joined(Term t, Term u) {
            first = t;
            second = u;
            pattern = new Term();
            if (!joinNodes(0, 0, 0)) {
                return null;
            }
            pattern.settle();
            return pattern;
        }

        /** What a hole stands for, see LeastPatterns.origin(). */
        int meaning(int hole, int what) {
            if (outside(hole, HOLES - 1) || hole >= holes) {
                return NONE;
            }
            switch (what) {
                case 0:
                    return firstNodes[hole] == 0 ? NONE : firstIndices[hole];
                case 1:
                    return firstNodes[hole];
                case 2:
                    return secondNodes[hole] == 0 ? NONE : secondIndices[hole];
                default:
                    return secondNodes[hole];
            }
        }

        /** Appends the join of a node of each term to the pattern; false if it is not possible. */
        private boolean joinNodes(int i, int j, int depth) {
            if (depth > DEPTH) {
                return false;
            }
            boolean symbols = first.sortOf(i) == SYMBOL && second.sortOf(j) == SYMBOL;
            boolean sequence = first.sequencePlace(i) >= 0 || second.sequencePlace(j) >= 0;
            int arguments = first.argumentsOf(i);
            boolean even = arguments == second.argumentsOf(j) && !sequence;
            if (symbols && first.headOf(i) == second.headOf(j)) {
                if (even) {
                    return pattern.append(first.headOf(i), arguments)
                            && joinRow(i + 1, j + 1, arguments, depth + 1);
                }
                if (aligned || sequence) {
                    return joinAligned(i, j, depth);
                }
            } else if (symbols && unlikeHeads && arguments > 0 && even) {
                return appendHole(HEAD_HOLE, arguments, i, 1, j, 1)
                        && joinRow(i + 1, j + 1, arguments, depth + 1);
            }
            return appendHole(TERM_HOLE, 0, i, first.spanOf(i), j, second.spanOf(j));
        }

        /** Joins arguments one by one, from two of them on. */
        private boolean joinRow(int i, int j, int howMany, int depth) {
            int mine = i;
            int theirs = j;
            for (int k = 0; k < howMany; k++) {
                if (!joinNodes(mine, theirs, depth)) {
                    return false;
                }
                mine += first.spanOf(mine);
                theirs += second.spanOf(theirs);
            }
            return true;
        }

        /** Joins two nodes with the same symbol, with a sequence hole for the middle of their arguments. */
        private boolean joinAligned(int i, int j, int depth) {
            int mine = first.argumentsOf(i);
            int theirs = second.argumentsOf(j);
            int fewer = Math.min(mine, theirs);
            int p = 0;
            while (p < fewer && sameSymbol(first.argument(i, p), second.argument(j, p))) {
                p++;
            }
            int q = 0;
            while (p + q < fewer
                    && sameSymbol(first.argument(i, mine - 1 - q), second.argument(j, theirs - 1 - q))) {
                q++;
            }
            int myMiddle = first.argument(i, p);
            int myEnd = first.argument(i, mine - q);
            int theirMiddle = second.argument(j, p);
            int theirEnd = second.argument(j, theirs - q);
            return pattern.append(first.headOf(i), p + 1 + q)
                    && joinRow(i + 1, j + 1, p, depth + 1)
                    && appendHole(SEQUENCE_HOLE, 0, myMiddle, myEnd - myMiddle,
                            theirMiddle, theirEnd - theirMiddle)
                    && joinRow(myEnd, theirEnd, q, depth + 1);
        }

        private boolean sameSymbol(int i, int j) {
            return first.sortOf(i) == SYMBOL && first.headOf(i) == second.headOf(j);
        }

        /** Appends the hole for a pair of parts to the pattern; false if it can't be taken. */
        private boolean appendHole(int sort, int arguments, int i, int nodes, int j, int others) {
            int hole = 0;
            while (hole < holes && hole < HOLES && !standsFor(hole, sort, i, nodes, j, others)) {
                hole++;
            }
            if (hole >= HOLES) {
                return false;
            }
            if (hole == holes) {
                sorts[hole] = sort;
                firstTerms[hole] = first;
                firstIndices[hole] = i;
                firstNodes[hole] = nodes;
                secondTerms[hole] = second;
                secondIndices[hole] = j;
                secondNodes[hole] = others;
                holes++;
            }
            return pattern.append(sort << 4 | hole, arguments);
        }

        /** Whether the table has a pair for a hole that is equal to this one. */
        private boolean standsFor(int hole, int sort, int i, int nodes, int j, int others) {
            Term mine = firstTerms[hole];
            Term theirs = secondTerms[hole];
            if (mine == null || theirs == null || sorts[hole] != sort
                    || firstNodes[hole] != nodes || secondNodes[hole] != others) {
                return false;
            }
            if (sort == HEAD_HOLE) {
                return mine.headOf(firstIndices[hole]) == first.headOf(i)
                        && theirs.headOf(secondIndices[hole]) == second.headOf(j);
            }
            return mine.compareNodes(firstIndices[hole], first, i, nodes) == 0
                    && theirs.compareNodes(secondIndices[hole], second, j, others) == 0;
        }
    }

    /** Matches a pattern with a term, and holds by what each hole is filled. */
    private static final class Matcher {
        private Term pattern = new Term();
        private Term term = new Term();
        /** The node of the term where a node of the pattern is matched. */
        private final int[] targets = new int[NODES];
        /** How many terms from there on a node of the pattern has to take. */
        private final int[] takes = new int[NODES];
        private final int[] sorts = new int[HOLES];
        private final int[] indices = new int[HOLES];
        private final int[] nodes = new int[HOLES];
        private final int[] terms = new int[HOLES];

        boolean matches(Term p, Term t) {
            pattern = p;
            term = t;
            for (int h = 0; h < HOLES; h++) {
                sorts[h] = NO_SORT;
            }
            targets[0] = 0;
            takes[0] = 1;
            // a node comes behind the one that it is an argument of, which has told its target
            for (int i = 0; i < p.count && i < NODES; i++) {
                if (!matchNode(i, targets[i])) {
                    return false;
                }
            }
            return true;
        }

        private boolean matchNode(int i, int j) {
            int sort = term.sortOf(j);
            switch (pattern.sortOf(i)) {
                case SEQUENCE_HOLE:
                    return fill(i, j, term.argument(j - 1, takes[i]) - j);
                case TERM_HOLE:
                    return sort != NO_SORT && sort != SEQUENCE_HOLE && fill(i, j, term.spanOf(j));
                case HEAD_HOLE:
                    return (sort == SYMBOL || sort == HEAD_HOLE) && fill(i, j, 1) && placeArguments(i, j);
                default:
                    return pattern.headOf(i) == term.headOf(j) && placeArguments(i, j);
            }
        }

        /** Tells the arguments of a node of the pattern what they have to match. */
        private boolean placeArguments(int i, int j) {
            int arguments = pattern.argumentsOf(i);
            int place = pattern.sequencePlace(i);
            int left = term.argumentsOf(j) - arguments + (place >= 0 ? 1 : 0);
            if (left < 0 || place < 0 && left > 0) {
                return false;
            }
            int mine = i + 1;
            int theirs = j + 1;
            for (int k = 0; k < arguments && mine < NODES; k++) {
                targets[mine] = theirs;
                takes[mine] = k == place ? left : 1;
                theirs = term.argument(theirs - 1, takes[mine]);
                mine += pattern.spanOf(mine);
            }
            return true;
        }

        /** Fills the hole of a node, or tells whether it has been filled by the same. */
        private boolean fill(int i, int j, int howMany) {
            int hole = pattern.numberOf(i);
            if (outside(hole, HOLES - 1)) {
                return false;
            }
            if (sorts[hole] == NO_SORT) {
                sorts[hole] = pattern.sortOf(i);
                indices[hole] = j;
                nodes[hole] = howMany;
                terms[hole] = takes[i];
                return true;
            }
            if (sorts[hole] == HEAD_HOLE) {
                return term.headOf(indices[hole]) == term.headOf(j);
            }
            return nodes[hole] == howMany && term.compareNodes(indices[hole], term, j, howMany) == 0;
        }

        /** By what a hole is filled, see LeastPatterns.filled(). */
        int filling(int hole, int what) {
            if (outside(hole, HOLES - 1) || sorts[hole] == NO_SORT) {
                return NONE;
            }
            switch (what) {
                case 0:
                    return nodes[hole] == 0 ? NONE : indices[hole];
                case 1:
                    return nodes[hole];
                default:
                    return terms[hole];
            }
        }

        /**
         * Whether a step that changes one hole leaves the pattern covering the terms of both. A
         * filling is unique, so it does just if both fillings of the hole have the form that it asks.
         */
        boolean canNarrow(int hole, Matcher other) {
            if (outside(hole, HOLES - 1)) {
                return false;
            }
            int i = indices[hole];
            int j = other.indices[hole];
            switch (sorts[hole]) {
                case TERM_HOLE:
                    return sameSymbol(i, other, j) && term.argumentsOf(i) == other.term.argumentsOf(j)
                            && term.sequencePlace(i) < 0 && other.term.sequencePlace(j) < 0;
                case HEAD_HOLE:
                    return sameSymbol(i, other, j);
                case SEQUENCE_HOLE:
                    return terms[hole] == 0 && other.terms[hole] == 0
                            || beginsWithTerm(hole) && other.beginsWithTerm(hole)
                            || endsWithTerm(hole) && other.endsWithTerm(hole);
                default:
                    return false;
            }
        }

        private boolean sameSymbol(int i, Matcher other, int j) {
            return term.sortOf(i) == SYMBOL && term.headOf(i) == other.term.headOf(j);
        }

        private boolean beginsWithTerm(int hole) {
            return terms[hole] > 0 && term.sortOf(indices[hole]) != SEQUENCE_HOLE;
        }

        private boolean endsWithTerm(int hole) {
            int last = term.argument(indices[hole] - 1, terms[hole] - 1);
            return terms[hole] > 0 && term.sortOf(last) != SEQUENCE_HOLE;
        }

        /** Whether a hole and one before it could be the same, with the terms of both still covered. */
        boolean canMerge(int hole, Matcher other) {
            for (int h = 0; h < hole && h < HOLES; h++) {
                if (sameFilling(h, hole) && other.sameFilling(h, hole)) {
                    return true;
                }
            }
            return false;
        }

        private boolean sameFilling(int g, int h) {
            if (outside(g, HOLES - 1) || outside(h, HOLES - 1) || sorts[g] == NO_SORT
                    || sorts[g] != sorts[h] || nodes[g] != nodes[h]) {
                return false;
            }
            if (sorts[g] == HEAD_HOLE) {
                return term.headOf(indices[g]) == term.headOf(indices[h]);
            }
            return term.compareNodes(indices[g], term, indices[h], nodes[g]) == 0;
        }

        /** Whether the holes of another pattern are filled, and no head hole is left without arguments. */
        boolean canFill(Term right) {
            for (int i = 0; i < right.count; i++) {
                int sort = right.sortOf(i);
                int hole = right.numberOf(i);
                if (sort == SYMBOL) {
                    continue;
                }
                if (outside(hole, HOLES - 1) || sorts[hole] != sort) {
                    return false;
                }
                if (sort == HEAD_HOLE && term.sortOf(indices[hole]) == HEAD_HOLE
                        && argumentsWhenFilled(right, i) == 0) {
                    return false;
                }
            }
            return true;
        }

        private int argumentsWhenFilled(Term right, int i) {
            int arguments = right.argumentsOf(i);
            int place = right.sequencePlace(i);
            if (place < 0) {
                return arguments;
            }
            int hole = right.numberOf(right.argument(i, place));
            return arguments - 1 + (!outside(hole, HOLES - 1) ? terms[hole] : 0);
        }

        /** Returns another pattern with its holes filled likewise, or null if it would be too large. */
        Term rewritten(Term right) {
            Term result = new Term();
            for (int i = 0; i < right.count; i++) {
                int hole = right.numberOf(i);
                boolean fits = false;
                if (right.sortOf(i) == SYMBOL) {
                    fits = result.append(right.headOf(i), argumentsWhenFilled(right, i));
                } else if (outside(hole, HOLES - 1)) {
                    return null;
                } else if (right.sortOf(i) == HEAD_HOLE) {
                    fits = result.append(term.headOf(indices[hole]), argumentsWhenFilled(right, i));
                } else {
                    fits = result.appendNodes(term, indices[hole], nodes[hole]);
                }
                if (!fits) {
                    return null;
                }
            }
            result.settle();
            return result.greatestDepth() <= DEPTH ? result : null;
        }
    }
}
