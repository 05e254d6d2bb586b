import java.util.ArrayList;
import java.util.List;

/**
 * Promises 10 to 19: every pair and many triples of the smallest terms, compared with the model: those
 * of at most three nodes over two symbols and a hole of each sort.
 */
public final class SmallTermsTest {
    private static final Check CHECK = new Check();
    private static final String[] LEAVES = {"a", "b", "0", "2*"};
    private static final String[] HEADS = {"a", "b", "1"};

    private static LeastPatterns x;
    private static Model model;

    public static void main(String[] args) {
        List<String> terms = terms();
        System.out.println(terms.size() + " terms");
        for (String t : terms) {
            for (String u : terms) {
                pair(t, u);
            }
        }
        List<String> few = terms.subList(0, 40);
        for (String p : terms) {
            for (String t : terms) {
                make(p, t);
                if (model.covers(0, 1) == 1) {
                    for (String u : terms) {
                        least(p, t, u);
                    }
                    for (String r : few) {
                        applied(p, r, t);
                    }
                }
            }
        }
        for (String t : few) {
            for (String u : few) {
                learnt(t, u);
            }
        }
        CHECK.end();
    }

    private static List<String> terms() {
        List<String> terms = new ArrayList<>(List.of("a", "b", "0"));
        for (String head : HEADS) {
            for (String leaf : LEAVES) {
                terms.add(head + "(" + leaf + ")");
            }
        }
        for (String head : HEADS) {
            for (String leaf : LEAVES) {
                for (String other : LEAVES) {
                    if (!leaf.equals("2*") || !other.equals("2*")) {
                        terms.add(head + "(" + leaf + "," + other + ")");
                    }
                }
                for (String inner : HEADS) {
                    terms.add(head + "(" + inner + "(" + leaf + "))");
                }
            }
        }
        return terms;
    }

    private static void make(String... texts) {
        x = Check.with(texts);
        model = new Model();
        for (int r = 0; r < texts.length; r++) {
            model.clear();
            for (int k = 0; k < texts[r].length(); k++) {
                model.type(texts[r].charAt(k));
            }
            model.put(r);
        }
    }

    private static void pair(String t, String u) {
        make(t, u);
        String both = t + " and " + u + ": ";
        CHECK.due(both + "covers", x.covers(0, 1), model.covers(0, 1));
        CHECK.due(both + "compare", x.compare(0, 1), model.compare(0, 1));
        CHECK.due(both + "covered", x.covered(0), model.covered(0));
        for (int hole = 0; hole < 3; hole++) {
            for (int what = 0; what <= 2; what++) {
                CHECK.due(both + "filled", x.filled(0, 1, hole, what), model.filled(0, 1, hole, what));
            }
        }
        for (int settings = 0; settings < 4; settings++) {
            x.set(0, settings & 1);
            x.set(1, settings >> 1);
            model.set(0, settings & 1);
            model.set(1, settings >> 1);
            for (int hole = 0; hole < 3; hole++) {
                for (int what = 0; what <= 3; what++) {
                    CHECK.due(both + "origin", x.origin(0, 1, hole, what), model.origin(0, 1, hole, what));
                }
            }
            CHECK.due(both + "join", x.join(0, 1, 2), model.join(0, 1, 2));
            CHECK.due(both + "isLeast", x.isLeast(2, 0, 1), model.isLeast(2, 0, 1));
            CHECK.due(both + "joinAll", x.joinAll(7, 3), model.joinAll(7, 3));
            CHECK.due(both + "learn", x.learn(0, 1, 1, 0, 4, 5), model.learn(0, 1, 1, 0, 4, 5));
            CHECK.due(both + "apply", x.apply(4, 5, 0, 6), model.apply(4, 5, 0, 6));
            CHECK.due(both + "apply", x.apply(4, 5, 1, 6), model.apply(4, 5, 1, 6));
            CHECK.due(both + "digest", x.digest(), model.digest());
        }
    }

    private static void least(String p, String t, String u) {
        make(p, t, u);
        if (model.covers(0, 2) == 1) {
            CHECK.due(p + " for " + t + " and " + u, x.isLeast(0, 1, 2), model.isLeast(0, 1, 2));
        }
    }

    private static void applied(String left, String right, String t) {
        make(left, right, t);
        CHECK.due(left + " > " + right + " of " + t, x.apply(0, 1, 2, 3), model.apply(0, 1, 2, 3));
        CHECK.due(left + " > " + right + " of " + t + ": digest", x.digest(), model.digest());
    }

    private static void learnt(String t, String u) {
        String[] after = {"a(0)", "b(a,0)", "a(a,b)", "1(b)", "b(2*,b)"};
        for (String v : after) {
            for (String w : after) {
                make(t, v, u, w);
                x.set(0, 1);
                x.set(1, 1);
                model.set(0, 1);
                model.set(1, 1);
                String all = t + " > " + v + " and " + u + " > " + w + ": ";
                CHECK.due(all + "learn", x.learn(0, 1, 2, 3, 4, 5), model.learn(0, 1, 2, 3, 4, 5));
                CHECK.due(all + "digest", x.digest(), model.digest());
            }
        }
    }
}
