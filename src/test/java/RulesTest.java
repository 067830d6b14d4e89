import com.sun.source.tree.AssertTree;
import com.sun.source.tree.ClassTree;
import com.sun.source.tree.CompilationUnitTree;
import com.sun.source.tree.DoWhileLoopTree;
import com.sun.source.tree.ForLoopTree;
import com.sun.source.tree.LambdaExpressionTree;
import com.sun.source.tree.MemberReferenceTree;
import com.sun.source.tree.MethodInvocationTree;
import com.sun.source.tree.MethodTree;
import com.sun.source.tree.NewClassTree;
import com.sun.source.tree.SynchronizedTree;
import com.sun.source.tree.ThrowTree;
import com.sun.source.tree.Tree;
import com.sun.source.tree.TryTree;
import com.sun.source.tree.VariableTree;
import com.sun.source.tree.WhileLoopTree;
import com.sun.source.util.JavacTask;
import com.sun.source.util.TreePathScanner;
import com.sun.source.util.Trees;
import java.io.File;
import java.util.ArrayList;
import java.util.HashMap;
import java.util.HashSet;
import java.util.List;
import java.util.Map;
import java.util.Set;
import java.util.TreeSet;
import javax.lang.model.element.Element;
import javax.lang.model.element.ElementKind;
import javax.lang.model.element.Modifier;
import javax.tools.JavaCompiler;
import javax.tools.StandardJavaFileManager;
import javax.tools.ToolProvider;

/** Looks through the source of the class for what LANGUAGE.md rules out, as far as it can be seen there. */
public final class RulesTest {
    private static final String SOURCE = "src/main/java/LookaheadDepths.java";
    private static final Set<String> FACE = Set.of("type", "clear", "load", "fault", "production", "symbol", "nonterminal",
        "first", "follow", "ahead", "words", "word", "marks", "depth", "approximate", "deepest", "clash", "clashWord",
        "parse", "chosen", "derivations", "step", "ambiguous", "told", "undo", "digest");
    private static final Set<String> CONSTANTS = Set.of("BAD", "STATE", "FULL", "NONE");
    private static final Set<String> LIBRARY = Set.of("Math.min", "Math.max", "Integer.bitCount", "Long.bitCount",
        "Arrays.fill", "Object.Object");

    private static int wrong = 0;

    public static void main(String[] args) throws Exception {
        JavaCompiler compiler = ToolProvider.getSystemJavaCompiler();
        StandardJavaFileManager files = compiler.getStandardFileManager(null, null, null);
        JavacTask task = (JavacTask) compiler.getTask(null, files, null, List.of("-proc:none"), null,
            files.getJavaFileObjects(new File(SOURCE)));
        List<CompilationUnitTree> units = new ArrayList<>();
        task.parse().forEach(units::add);
        task.analyze();
        Looker looker = new Looker(Trees.instance(task));
        for (CompilationUnitTree unit : units) {
            looker.scan(unit, null);
        }
        looker.finish();
        System.out.println(wrong == 0 ? "no rule is seen broken" : wrong + " places break rules");
        if (wrong != 0) {
            System.exit(1);
        }
    }

    private static void blame(int rule, String what) {
        wrong++;
        System.out.println("rule " + rule + ": " + what);
    }

    private static final class Looker extends TreePathScanner<Void, Void> {
        final Trees trees;
        final Map<String, Set<String>> calls = new HashMap<>();
        final Set<String> face = new TreeSet<>();
        int classes = 0;
        String method = "";

        Looker(Trees trees) {
            this.trees = trees;
        }

        Element element() {
            return trees.getElement(getCurrentPath());
        }

        boolean isOutside(Element e) {
            return e.getEnclosingElement() != null && e.getEnclosingElement().getSimpleName().contentEquals("LookaheadDepths")
                && e.getEnclosingElement().getKind() == ElementKind.CLASS;
        }

        @Override
        public Void visitClass(ClassTree tree, Void v) {
            classes++;
            Element e = element();
            boolean outer = e.getSimpleName().contentEquals("LookaheadDepths");
            if (!outer && !e.getModifiers().contains(Modifier.STATIC)) {
                blame(2, tree.getSimpleName() + " is not static");
            }
            if (!outer && (e.getModifiers().contains(Modifier.PUBLIC) || e.getModifiers().contains(Modifier.PROTECTED))) {
                blame(1, tree.getSimpleName() + " is public or protected");
            }
            int fields = 0;
            for (Tree member : tree.getMembers()) {
                if (member instanceof VariableTree && !((VariableTree) member).getModifiers().getFlags().contains(Modifier.STATIC)) {
                    fields++;
                }
            }
            if (fields > 20) {
                blame(11, tree.getSimpleName() + " has " + fields + " fields");
            }
            return super.visitClass(tree, v);
        }

        @Override
        public Void visitVariable(VariableTree tree, Void v) {
            Element e = element();
            if (e.getKind() == ElementKind.FIELD) {
                Set<Modifier> m = e.getModifiers();
                if (m.contains(Modifier.STATIC) && !m.contains(Modifier.FINAL)) {
                    blame(5, e + " is static and not final");
                }
                if (isOutside(e) && !m.contains(Modifier.PRIVATE) && !CONSTANTS.contains(e.toString())) {
                    blame(1, e + " is not private");
                }
            }
            return super.visitVariable(tree, v);
        }

        @Override
        public Void visitMethod(MethodTree tree, Void v) {
            Element e = element();
            String name = e.getSimpleName().toString();
            method = e.getEnclosingElement().getSimpleName() + "." + name;
            calls.putIfAbsent(method, new HashSet<>());
            if (isOutside(e) && e.getModifiers().contains(Modifier.PUBLIC) && !name.equals("<init>")) {
                face.add(name);
            } else if (FACE.contains(name)) {
                blame(1, method + " bears the name of a public method");
            } else if (isOutside(e) && !name.equals("<init>") && !e.getModifiers().contains(Modifier.PRIVATE)) {
                blame(1, method + " is not private");
            }
            if (tree.getParameters().size() > 7) {
                blame(11, method + " has more than seven parameters");
            }
            CompilationUnitTree unit = getCurrentPath().getCompilationUnit();
            long from = unit.getLineMap().getLineNumber(Math.max(0, trees.getSourcePositions().getStartPosition(unit, tree)));
            long end = trees.getSourcePositions().getEndPosition(unit, tree);
            if (end > 0 && unit.getLineMap().getLineNumber(end) - from > 60) {
                blame(11, method + " is long");
            }
            super.visitMethod(tree, v);
            method = "";
            return null;
        }

        @Override
        public Void visitMethodInvocation(MethodInvocationTree tree, Void v) {
            Element e = element();
            String owner = e.getEnclosingElement().toString();
            String called = e.getEnclosingElement().getSimpleName() + "." + (e.getSimpleName().contentEquals("<init>")
                ? e.getEnclosingElement().getSimpleName() : e.getSimpleName());
            if (owner.startsWith("LookaheadDepths")) {
                calls.computeIfAbsent(method, m -> new HashSet<>()).add(called);
            } else if (!LIBRARY.contains(called)) {
                blame(4, called + " is called in " + method);
            }
            return super.visitMethodInvocation(tree, v);
        }

        @Override
        public Void visitNewClass(NewClassTree tree, Void v) {
            if (tree.getClassBody() != null) {
                blame(2, "an anonymous class in " + method);
            }
            if (!method.isEmpty() && !method.endsWith(".<init>") && !method.endsWith(".newSets")) {
                blame(12, "an object is made in " + method);
            }
            return super.visitNewClass(tree, v);
        }

        @Override
        public Void visitLambdaExpression(LambdaExpressionTree tree, Void v) {
            blame(2, "a lambda in " + method);
            return super.visitLambdaExpression(tree, v);
        }

        @Override
        public Void visitMemberReference(MemberReferenceTree tree, Void v) {
            blame(2, "a method reference in " + method);
            return super.visitMemberReference(tree, v);
        }

        @Override
        public Void visitThrow(ThrowTree tree, Void v) {
            blame(6, "throw in " + method);
            return super.visitThrow(tree, v);
        }

        @Override
        public Void visitTry(TryTree tree, Void v) {
            blame(6, "try in " + method);
            return super.visitTry(tree, v);
        }

        @Override
        public Void visitSynchronized(SynchronizedTree tree, Void v) {
            blame(6, "synchronized in " + method);
            return super.visitSynchronized(tree, v);
        }

        @Override
        public Void visitAssert(AssertTree tree, Void v) {
            blame(6, "assert in " + method);
            return super.visitAssert(tree, v);
        }

        @Override
        public Void visitForLoop(ForLoopTree tree, Void v) {
            if (tree.getCondition() == null || tree.getUpdate().isEmpty()) {
                blame(9, "a loop without a bound in " + method);
            }
            return super.visitForLoop(tree, v);
        }

        @Override
        public Void visitWhileLoop(WhileLoopTree tree, Void v) {
            blame(9, "a while loop in " + method);
            return super.visitWhileLoop(tree, v);
        }

        @Override
        public Void visitDoWhileLoop(DoWhileLoopTree tree, Void v) {
            blame(9, "a do loop in " + method);
            return super.visitDoWhileLoop(tree, v);
        }

        void finish() {
            if (!face.equals(new TreeSet<>(FACE))) {
                blame(1, "the public methods are " + face);
            }
            if (classes > 12) {
                blame(11, "there are " + classes + " classes");
            }
            for (String start : calls.keySet()) {
                int levels = levels(start, new ArrayList<>());
                if (levels > 8) {
                    blame(11, start + " goes " + levels + " calls deep");
                }
            }
        }

        int levels(String start, List<String> open) {
            if (open.contains(start)) {
                blame(8, start + " calls itself, by " + open);
                return 0;
            }
            open.add(start);
            int most = 0;
            for (String called : calls.getOrDefault(start, Set.of())) {
                most = Math.max(most, levels(called, open));
            }
            open.remove(open.size() - 1);
            return most + 1;
        }
    }
}
