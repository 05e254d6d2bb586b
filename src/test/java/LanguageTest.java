import com.sun.source.tree.ClassTree;
import com.sun.source.tree.CompilationUnitTree;
import com.sun.source.tree.MethodInvocationTree;
import com.sun.source.tree.MethodTree;
import com.sun.source.tree.NewClassTree;
import com.sun.source.tree.Tree;
import com.sun.source.tree.VariableTree;
import com.sun.source.util.JavacTask;
import com.sun.source.util.TreePath;
import com.sun.source.util.TreePathScanner;
import com.sun.source.util.Trees;
import java.io.File;
import java.io.IOException;
import java.util.ArrayList;
import java.util.EnumSet;
import java.util.LinkedHashMap;
import java.util.LinkedHashSet;
import java.util.List;
import java.util.Map;
import java.util.Set;
import java.util.TreeSet;
import javax.lang.model.element.Element;
import javax.lang.model.element.ElementKind;
import javax.lang.model.element.Modifier;
import javax.tools.JavaCompiler;
import javax.tools.StandardJavaFileManager;
import javax.tools.ToolProvider;

/** The rules of ../shared/LANGUAGE.md that can be told from the source. */
public final class LanguageTest {
    private static final Check CHECK = new Check();
    private static final Set<String> FACE = Set.of("type(int)", "clear()", "put(int)", "fault()", "empty(int)",
            "set(int,int)", "node(int,int,int)", "size(int,int)", "join(int,int,int)", "joinAll(int,int)",
            "origin(int,int,int,int)", "covers(int,int)", "filled(int,int,int,int)", "compare(int,int)", "covered(int)",
            "isLeast(int,int,int)", "learn(int,int,int,int,int,int)", "apply(int,int,int,int)", "told(int)",
            "undo()", "digest()");
    private static final Set<String> CONSTANTS = Set.of("BAD", "STATE", "FULL", "NONE");
    /** The library's classes that the rules list, as far as the program uses any of them. */
    private static final Set<String> LIBRARY = Set.of("java.lang.Math", "java.lang.Integer", "java.lang.Long",
            "java.lang.String", "java.lang.StringBuilder", "java.lang.System", "java.util.Arrays", "java.lang.Object");
    /** What the rules forbid, and of what they allow the casts, texts and annotations that the program needs none of. */
    private static final EnumSet<Tree.Kind> FORBIDDEN = EnumSet.of(Tree.Kind.THROW, Tree.Kind.TRY, Tree.Kind.ASSERT,
            Tree.Kind.SYNCHRONIZED, Tree.Kind.LAMBDA_EXPRESSION, Tree.Kind.MEMBER_REFERENCE, Tree.Kind.IMPORT,
            Tree.Kind.PACKAGE, Tree.Kind.ANNOTATION, Tree.Kind.STRING_LITERAL, Tree.Kind.TYPE_CAST);

    private static Trees trees;
    private static CompilationUnitTree unit;
    private static final Map<Element, Set<Element>> CALLS = new LinkedHashMap<>();
    private static int classes = 0;

    public static void main(String[] args) throws IOException {
        JavaCompiler compiler = ToolProvider.getSystemJavaCompiler();
        StandardJavaFileManager files = compiler.getStandardFileManager(null, null, null);
        JavacTask task = (JavacTask) compiler.getTask(null, files, null, List.of("-proc:none"), null,
                files.getJavaFileObjects(new File("src/main/java/LeastPatterns.java")));
        unit = task.parse().iterator().next();
        task.analyze();
        trees = Trees.instance(task);
        CHECK.due("classes of the file", unit.getTypeDecls().size(), 1);
        new Rules().scan(unit, null);
        CHECK.due("more than 12 classes", classes > 12 ? classes : 0, 0);
        int deepest = 0;
        for (Element method : CALLS.keySet()) {
            deepest = Math.max(deepest, depth(method, new ArrayList<>()));
        }
        System.out.println("calls go " + deepest + " deep");
        CHECK.due("calls deeper than 8", deepest > 8 ? deepest : 0, 0);
        CHECK.end();
    }

    /** How deep the calls of a method go, with those of a recursion counted once each. */
    private static int depth(Element method, List<Element> above) {
        int deepest = 0;
        above.add(method);
        for (Element called : CALLS.getOrDefault(method, Set.of())) {
            if (!above.contains(called)) {
                deepest = Math.max(deepest, depth(called, above));
            }
        }
        above.remove(method);
        return deepest + 1;
    }

    private static final class Rules extends TreePathScanner<Void, Void> {
        private Element method = null;

        @Override
        public Void scan(Tree tree, Void nothing) {
            if (tree != null && FORBIDDEN.contains(tree.getKind())) {
                CHECK.due("line " + line(tree) + ": " + tree.getKind(), 1, 0);
            }
            return super.scan(tree, nothing);
        }

        private long line(Tree tree) {
            return unit.getLineMap().getLineNumber(trees.getSourcePositions().getStartPosition(unit, tree));
        }

        private long lines(Tree tree) {
            long end = trees.getSourcePositions().getEndPosition(unit, tree);
            return unit.getLineMap().getLineNumber(end) - line(tree) + 1;
        }

        @Override
        public Void visitClass(ClassTree tree, Void nothing) {
            classes++;
            Element element = trees.getElement(getCurrentPath());
            boolean outer = element.getSimpleName().contentEquals("LeastPatterns");
            Set<Modifier> modifiers = element.getModifiers();
            if (outer) {
                CHECK.due("public and final", modifiers.toString(), "[public, final]");
            } else {
                CHECK.due(element + " is not static", modifiers.contains(Modifier.STATIC) ? 0 : 1, 0);
                CHECK.due(element + " is public", modifiers.contains(Modifier.PUBLIC) ? 1 : 0, 0);
                CHECK.due(element + " stands in a class",
                        element.getEnclosingElement().getSimpleName().toString(), "LeastPatterns");
            }
            int fields = 0;
            Set<String> face = new TreeSet<>();
            Set<String> constants = new TreeSet<>();
            for (Element member : element.getEnclosedElements()) {
                boolean hidden = member.getModifiers().contains(Modifier.PRIVATE);
                boolean constant = member.getModifiers().contains(Modifier.STATIC);
                if (member.getKind() == ElementKind.FIELD) {
                    fields += constant ? 0 : 1;
                    CHECK.due(member + " is static and not final",
                            constant && !member.getModifiers().contains(Modifier.FINAL) ? 1 : 0, 0);
                    if (!hidden && outer) {
                        constants.add(member.toString());
                    }
                } else if (member.getKind() == ElementKind.METHOD && !hidden && outer) {
                    face.add(member.toString());
                } else if (member.getKind() == ElementKind.METHOD) {
                    for (String method : FACE) {
                        CHECK.due(member + " bears the name of a public method",
                                method.startsWith(member.getSimpleName() + "(") ? 1 : 0, 0);
                    }
                }
            }
            CHECK.due(element + " has more than 20 fields", fields > 20 ? fields : 0, 0);
            if (outer) {
                CHECK.due("the face", face.toString(), new TreeSet<>(FACE).toString());
                CHECK.due("the constants", constants.toString(), new TreeSet<>(CONSTANTS).toString());
            }
            return super.visitClass(tree, nothing);
        }

        @Override
        public Void visitMethod(MethodTree tree, Void nothing) {
            Element before = method;
            method = trees.getElement(getCurrentPath());
            CALLS.putIfAbsent(method, new LinkedHashSet<>());
            CHECK.due(method + " has more than 7 parameters", tree.getParameters().size() > 7 ? 1 : 0, 0);
            CHECK.due(method + " has more than 60 lines", lines(tree) > 60 ? lines(tree) : 0, 0);
            super.visitMethod(tree, nothing);
            method = before;
            return null;
        }

        @Override
        public Void visitMethodInvocation(MethodInvocationTree tree, Void nothing) {
            called(new TreePath(getCurrentPath(), tree.getMethodSelect()));
            return super.visitMethodInvocation(tree, nothing);
        }

        @Override
        public Void visitNewClass(NewClassTree tree, Void nothing) {
            CHECK.due("line " + line(tree) + ": an anonymous class", tree.getClassBody() == null ? 0 : 1, 0);
            return super.visitNewClass(tree, nothing);
        }

        @Override
        public Void visitVariable(VariableTree tree, Void nothing) {
            String type = String.valueOf(tree.getType());
            CHECK.due("line " + line(tree) + ": the type " + type, type.contains("[][][]") ? 1 : 0, 0);
            return super.visitVariable(tree, nothing);
        }

        private void called(TreePath path) {
            Element callee = trees.getElement(path);
            String owner = callee.getEnclosingElement().toString();
            if (owner.startsWith("LeastPatterns")) {
                if (method != null) {
                    CALLS.get(method).add(callee);
                }
            } else {
                CHECK.due(owner + "." + callee + " is not listed", LIBRARY.contains(owner) ? 0 : 1, 0);
            }
        }
    }
}
