import com.sun.source.tree.ArrayAccessTree;
import com.sun.source.tree.BinaryTree;
import com.sun.source.tree.ClassTree;
import com.sun.source.tree.CompilationUnitTree;
import com.sun.source.tree.LiteralTree;
import com.sun.source.tree.MethodInvocationTree;
import com.sun.source.tree.MethodTree;
import com.sun.source.tree.NewClassTree;
import com.sun.source.tree.Tree;
import com.sun.source.tree.VariableTree;
import com.sun.source.util.JavacTask;
import com.sun.source.util.TreePathScanner;
import com.sun.source.util.Trees;
import java.nio.file.Files;
import java.nio.file.Path;
import java.util.EnumSet;
import java.util.HashMap;
import java.util.HashSet;
import java.util.List;
import java.util.Map;
import java.util.Set;
import java.util.TreeSet;
import javax.lang.model.element.Element;
import javax.lang.model.element.ExecutableElement;
import javax.lang.model.element.Modifier;
import javax.tools.JavaCompiler;
import javax.tools.StandardJavaFileManager;
import javax.tools.ToolProvider;

/** What of ../shared/LANGUAGE.md can be seen in the source by the compiler's own eyes. */
public final class LanguageTest {
    private static final Path SOURCE = Path.of("src/main/java/RegrowDesk.java");
    private static final Set<Tree.Kind> RULED_OUT = EnumSet.of(Tree.Kind.THROW, Tree.Kind.TRY, Tree.Kind.CATCH,
            Tree.Kind.SYNCHRONIZED, Tree.Kind.ASSERT, Tree.Kind.LAMBDA_EXPRESSION, Tree.Kind.MEMBER_REFERENCE,
            Tree.Kind.TYPE_CAST, Tree.Kind.SWITCH_EXPRESSION, Tree.Kind.IMPORT);
    /** Only here stands a bare index, each behind its own test. */
    private static final Set<String> INDEXING = Set.of("RegrowDesk.<init>", "RegrowDesk.now", "RegrowDesk.leadsTo",
            "RegrowDesk.ruleAt", "RegrowDesk.symbolOf", "RegrowDesk.lengthOf", "RegrowDesk.fits", "Row.get", "Row.set",
            "Row.fill");
    private static final String[] FACE = {"feed", "back", "edit", "rename", "cut", "twin", "swap", "undo", "redo", "text",
        "token", "good", "node", "child", "last", "fresh", "inTheWay", "expected", "mend", "print", "ruled", "row", "pair",
        "young", "beside", "span", "under", "before", "runs", "run", "value", "worth", "above", "common", "uses", "idle",
        "firm", "alike", "path", "sets", "count"};

    private static final Typist T = new Typist();
    private static final Map<Element, Set<Element>> CALLS = new HashMap<>();

    private static final class Reader extends TreePathScanner<Void, Void> {
        final Trees trees;
        final CompilationUnitTree unit;
        final Set<String> face = new HashSet<>(List.of(FACE));
        final Set<String> publicOnes = new TreeSet<>();
        String type = "";
        String method = "";
        Element called;
        int types;

        Reader(Trees trees, CompilationUnitTree unit) {
            this.trees = trees;
            this.unit = unit;
        }

        private long line(long at) {
            return unit.getLineMap().getLineNumber(at);
        }

        @Override
        public Void scan(Tree tree, Void v) {
            if (tree != null && RULED_OUT.contains(tree.getKind())) {
                T.due(type + "." + method + " has a " + tree.getKind(), true, false);
            }
            return super.scan(tree, v);
        }

        @Override
        public Void visitClass(ClassTree tree, Void v) {
            String outer = type;
            type = tree.getSimpleName().toString();
            types++;
            Set<Modifier> flags = tree.getModifiers().getFlags();
            T.due(type + " is nested as it may be", outer.isEmpty() ? flags.contains(Modifier.PUBLIC)
                    : flags.contains(Modifier.STATIC) && !flags.contains(Modifier.PUBLIC), true);
            int fields = 0;
            for (Tree member : tree.getMembers()) {
                fields += member instanceof VariableTree f && !f.getModifiers().getFlags().contains(Modifier.STATIC) ? 1 : 0;
                T.due(type + " has no bare block", member.getKind() == Tree.Kind.BLOCK, false);
            }
            T.due(type + "'s fields: " + fields, fields <= 20, true);
            super.visitClass(tree, v);
            type = outer;
            return null;
        }

        @Override
        public Void visitVariable(VariableTree tree, Void v) {
            Set<Modifier> flags = tree.getModifiers().getFlags();
            T.due(tree.getName() + " is final", !flags.contains(Modifier.STATIC) || flags.contains(Modifier.FINAL), true);
            if (type.equals("RegrowDesk") && method.isEmpty()) {
                T.due(tree.getName() + " is private", flags.contains(Modifier.PRIVATE)
                        || tree.getName().contentEquals("NONE"), true);
            }
            return super.visitVariable(tree, v);
        }

        @Override
        public Void visitMethod(MethodTree tree, Void v) {
            method = tree.getName().toString();
            called = trees.getElement(getCurrentPath());
            CALLS.put(called, new HashSet<>());
            long start = trees.getSourcePositions().getStartPosition(unit, tree);
            long end = trees.getSourcePositions().getEndPosition(unit, tree);
            T.due(type + "." + method + " is short", start < 0 || line(end) - line(start) < 60, true);
            T.due(type + "." + method + "'s parameters", tree.getParameters().size() <= 7, true);
            boolean open = tree.getModifiers().getFlags().contains(Modifier.PUBLIC);
            T.due(type + "." + method + " bears a name of its own", face.contains(method), open && !method.equals("<init>"));
            if (type.equals("RegrowDesk") && open) {
                publicOnes.add(method);
            } else {
                T.due(type + "." + method + " is not public", open, false);
                T.due(type + "." + method + " is private", !type.equals("RegrowDesk")
                        || tree.getModifiers().getFlags().contains(Modifier.PRIVATE), true);
            }
            super.visitMethod(tree, v);
            method = "";
            called = null;
            return null;
        }

        @Override
        public Void visitMethodInvocation(MethodInvocationTree tree, Void v) {
            callFound();
            return super.visitMethodInvocation(tree, v);
        }

        @Override
        public Void visitNewClass(NewClassTree tree, Void v) {
            callFound();
            T.due(type + "." + method + " makes a class with a body", tree.getClassBody() != null, false);
            T.due(type + "." + method + " makes an object in a call", method.isEmpty() || method.equals("<init>"), true);
            return super.visitNewClass(tree, v);
        }

        private void callFound() {
            Element to = trees.getElement(getCurrentPath());
            if (called != null && to instanceof ExecutableElement) {
                CALLS.get(called).add(to);
            }
        }

        @Override
        public Void visitArrayAccess(ArrayAccessTree tree, Void v) {
            T.due(type + "." + method + " may index", INDEXING.contains(type + "." + method), true);
            return super.visitArrayAccess(tree, v);
        }

        @Override
        public Void visitBinary(BinaryTree tree, Void v) {
            if (tree.getKind() == Tree.Kind.DIVIDE || tree.getKind() == Tree.Kind.REMAINDER) {
                boolean plain = tree.getRightOperand() instanceof LiteralTree literal && !literal.getValue().equals(0);
                T.due(type + "." + method + " divides by a number that is written there", plain, true);
            }
            return super.visitBinary(tree, v);
        }
    }

    /** Calls that stand open at once at most, those of a method to itself not. */
    private static int deepFrom(Element method, Set<Element> open) {
        int deepest = 0;
        for (Element next : CALLS.getOrDefault(method, Set.of())) {
            if (CALLS.containsKey(next) && open.add(next)) {
                deepest = Math.max(deepest, deepFrom(next, open));
                open.remove(next);
            }
        }
        return deepest + 1;
    }

    private static void signs() throws Exception {
        String text = Files.readString(SOURCE);
        T.due("signs 1 to 127 alone", text.chars().allMatch(c -> c >= 1 && c <= 127), true);
        T.due("no package", text.contains("\npackage ") || text.startsWith("package "), false);
    }

    public static void main(String[] args) throws Exception {
        signs();
        JavaCompiler compiler = ToolProvider.getSystemJavaCompiler();
        StandardJavaFileManager files = compiler.getStandardFileManager(null, null, null);
        JavacTask task = (JavacTask) compiler.getTask(null, files, null, List.of("-proc:none"), null,
                files.getJavaFileObjects(SOURCE.toFile()));
        CompilationUnitTree unit = task.parse().iterator().next();
        task.analyze();
        Reader reader = new Reader(Trees.instance(task), unit);
        reader.scan(unit, null);
        T.due("classes: " + reader.types, reader.types <= 12, true);
        Set<String> wanted = new TreeSet<>(List.of(FACE));
        wanted.add("<init>");
        T.due("the face", reader.publicOnes, wanted);
        for (Element method : CALLS.keySet()) {
            int deep = deepFrom(method, new HashSet<>(Set.of(method)));
            T.due(method + " goes so deep: " + deep, deep <= 8, true);
        }
        T.end("LanguageTest");
    }
}
