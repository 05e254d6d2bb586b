import java.io.IOException;
import java.nio.charset.StandardCharsets;
import java.nio.file.Files;
import java.nio.file.Path;
import java.util.ArrayList;
import java.util.List;

/** The example of README.md: its calls are made here, and each answer is the one that README.md shows. */
public final class ReadmeTest {
    private static final Check CHECK = new Check();
    private static final String HELPER = "static int write(LeastPatterns x, String text) {";
    private static final String BEGIN = "LeastPatterns x = new LeastPatterns();";

    private static List<String> example;
    private static int next = 0;

    public static void main(String[] args) throws IOException {
        List<String> readme = Files.readAllLines(Path.of("README.md"), StandardCharsets.UTF_8);
        helper(readme);
        example = example(readme);
        LeastPatterns x = new LeastPatterns();
        typed(x);
        joined(x);
        matched(x);
        learnt(x);
        undone(x);
        withHeadHoles(x);
        aligned(x);
        shaped(x);
        refused(x);
        CHECK.due("calls of README.md that this test makes", next, example.size());
        testsShown(readme);
        CHECK.end();
    }

    /** The lines of README.md's code from one of them on; a missing one is told. */
    private static List<String> code(List<String> readme, String first) {
        int begin = readme.indexOf(first);
        CHECK.due("README.md has " + first, begin >= 0 ? 1 : 0, 1);
        if (begin < 0) {
            return List.of();
        }
        List<String> rest = readme.subList(begin, readme.size());
        return rest.subList(0, Math.max(0, rest.indexOf("```")));
    }

    /** The helper of README.md must be write(), which this test uses. */
    private static void helper(List<String> readme) throws IOException {
        List<String> mine = Files.readAllLines(Path.of("src/test/java/ReadmeTest.java"), StandardCharsets.UTF_8);
        int begin = mine.indexOf("    private " + HELPER);
        for (String line : code(readme, HELPER)) {
            String due = begin >= 0 && begin < mine.size() ? mine.get(begin).strip() : "none";
            CHECK.due("a line of README.md's helper", line.strip(), due.replace("private ", ""));
            begin++;
        }
    }

    /** The calls of the example, without the empty lines and the comments of their own. */
    private static List<String> example(List<String> readme) {
        List<String> calls = new ArrayList<>(code(readme, BEGIN));
        calls.removeIf(line -> line.isEmpty() || line.startsWith("//") || line.equals(BEGIN));
        return calls;
    }

    /** The next call of the example must be this one, and its answer due, as README.md shows it. */
    private static void shown(String call, int answer, int due) {
        CHECK.due(call, answer, due);
        String line = next < example.size() ? example.get(next) : "none";
        next++;
        String shown = line.replaceFirst("^(.*?); +// (-?[0-9]+)(:.*)?$", "$1 = $2");
        CHECK.due("the call " + next + " of README.md", shown, call + " = " + due);
    }

    /** What README.md says that a register holds then. */
    private static void holds(LeastPatterns x, int r, String term) {
        CHECK.due("register " + r, Check.show(x, r), term);
        String line = next > 0 && next <= example.size() ? example.get(next - 1) : "none";
        CHECK.due("the call " + next + " of README.md names " + term, line.contains(term) ? 1 : 0, 1);
    }

    /** Types a text; README.md shows this helper. */
    private static int write(LeastPatterns x, String text) {
        x.clear();
        int bytes = 0;
        for (int i = 0; i < text.length(); i++) {
            bytes = x.type(text.charAt(i));
        }
        return bytes;
    }

    private static void typed(LeastPatterns x) {
        shown("x.type('f')", x.type('f'), 1);
        shown("x.type('(')", x.type('('), 2);
        shown("x.type('a')", x.type('a'), 3);
        shown("x.type(')')", x.type(')'), 4);
        shown("x.put(0)", x.put(0), 2);
        holds(x, 0, "f(a)");
        shown("x.clear()", x.clear(), 4);
        shown("write(x, \"f(a,g(a),b)\")", write(x, "f(a,g(a),b)"), 11);
        shown("x.put(0)", x.put(0), 5);
        holds(x, 0, "f(a,g(a),b)");
        shown("write(x, \"f(c,g(c),b)\")", write(x, "f(c,g(c),b)"), 11);
        shown("x.put(1)", x.put(1), 5);
    }

    private static void joined(LeastPatterns x) {
        shown("x.join(0, 1, 2)", x.join(0, 1, 2), 5);
        holds(x, 2, "f(0,g(0),b)");
        shown("x.size(2, 2)", x.size(2, 2), 1);
        shown("x.node(2, 0, 0)", x.node(2, 0, 0), 0);
        shown("x.node(2, 0, 1)", x.node(2, 0, 1), 5);
        shown("x.node(2, 0, 2)", x.node(2, 0, 2), 3);
        shown("x.node(2, 1, 0)", x.node(2, 1, 0), 1);
        shown("x.node(2, 1, 1)", x.node(2, 1, 1), 0);
        shown("x.origin(0, 1, 0, 0)", x.origin(0, 1, 0, 0), 1);
        shown("x.origin(0, 1, 0, 2)", x.origin(0, 1, 0, 2), 1);
    }

    private static void matched(LeastPatterns x) {
        shown("x.covers(2, 0)", x.covers(2, 0), 1);
        shown("x.covers(0, 2)", x.covers(0, 2), 0);
        shown("x.filled(2, 1, 0, 0)", x.filled(2, 1, 0, 0), 1);
        shown("x.covered(2)", x.covered(2), 7);
        shown("x.compare(2, 0)", x.compare(2, 0), 1);
        shown("x.isLeast(2, 0, 1)", x.isLeast(2, 0, 1), 1);
    }

    private static void learnt(LeastPatterns x) {
        shown("write(x, \"g(b,a)\")", write(x, "g(b,a)"), 6);
        shown("x.put(3)", x.put(3), 3);
        shown("write(x, \"g(b,c)\")", write(x, "g(b,c)"), 6);
        shown("x.put(4)", x.put(4), 3);
        shown("x.learn(0, 3, 1, 4, 5, 6)", x.learn(0, 3, 1, 4, 5, 6), 1);
        holds(x, 5, "f(0,g(0),b)");
        holds(x, 6, "g(b,0)");
        shown("write(x, \"f(h(k),g(h(k)),b)\")", write(x, "f(h(k),g(h(k)),b)"), 17);
        shown("x.put(7)", x.put(7), 7);
        shown("x.apply(5, 6, 7, 7)", x.apply(5, 6, 7, 7), 4);
        holds(x, 7, "g(b,h(k))");
        shown("x.node(7, 2, 1)", x.node(7, 2, 1), 7);
    }

    private static void undone(LeastPatterns x) {
        shown("x.undo()", x.undo(), 5);
        shown("x.size(7, 0)", x.size(7, 0), 7);
        holds(x, 7, "f(h(k),g(h(k)),b)");
    }

    private static void withHeadHoles(LeastPatterns x) {
        shown("x.set(0, 1)", x.set(0, 1), 0);
        shown("write(x, \"f(g(a),b)\")", write(x, "f(g(a),b)"), 9);
        shown("x.put(0)", x.put(0), 4);
        shown("write(x, \"h(g(c),b)\")", write(x, "h(g(c),b)"), 9);
        shown("x.put(1)", x.put(1), 4);
        shown("x.join(0, 1, 2)", x.join(0, 1, 2), 4);
        holds(x, 2, "0(g(1),b)");
        shown("x.node(2, 0, 0)", x.node(2, 0, 0), 2);
    }

    private static void aligned(LeastPatterns x) {
        shown("x.set(1, 1)", x.set(1, 1), 0);
        shown("write(x, \"f(g(c),d,e,b)\")", write(x, "f(g(c),d,e,b)"), 13);
        shown("x.put(1)", x.put(1), 6);
        shown("x.join(0, 1, 2)", x.join(0, 1, 2), 5);
        holds(x, 2, "f(g(0),1*,b)");
        shown("x.node(2, 3, 0)", x.node(2, 3, 0), 3);
        shown("x.filled(2, 1, 1, 2)", x.filled(2, 1, 1, 2), 2);
    }

    private static void shaped(LeastPatterns x) {
        shown("x.set(2, 32)", x.set(2, 32), 0);
        shown("x.set(3, 32)", x.set(3, 32), 0);
        shown("write(x, \"f(c,f(b,a))\")", write(x, "f(c,f(b,a))"), 11);
        shown("x.put(0)", x.put(0), 4);
        holds(x, 0, "f(a,b,c)");
    }

    private static void refused(LeastPatterns x) {
        shown("write(x, \"f(a,,b)\")", write(x, "f(a,,b)"), 7);
        shown("x.put(3)", x.put(3), -14);
        shown("x.fault()", x.fault(), 1);
        shown("x.put(8)", x.put(8), -1);
        shown("x.empty(5)", x.empty(5), 5);
        shown("x.covers(5, 0)", x.covers(5, 0), -2);
        shown("x.node(2, 9, 0)", x.node(2, 9, 0), -9);
    }

    /** Each test of the project is named in README.md, alone or between the first and the last promise. */
    private static void testsShown(List<String> readme) throws IOException {
        String text = String.join("\n", readme);
        try (var files = Files.list(Path.of("src/test/java"))) {
            for (Path file : files.sorted().toList()) {
                String name = file.getFileName().toString().replace(".java", "");
                if (name.endsWith("Test") && !name.startsWith("Promise")) {
                    CHECK.due("README.md names " + name, text.contains("`" + name + "`") ? 1 : 0, 1);
                }
            }
        }
    }
}
