import com.sun.source.tree.AssertTree;
import com.sun.source.tree.ClassTree;
import com.sun.source.tree.CompilationUnitTree;
import com.sun.source.tree.DoWhileLoopTree;
import com.sun.source.tree.ForLoopTree;
import com.sun.source.tree.LambdaExpressionTree;
import com.sun.source.tree.MemberReferenceTree;
import com.sun.source.tree.MethodInvocationTree;
import com.sun.source.tree.MethodTree;
import com.sun.source.tree.NewArrayTree;
import com.sun.source.tree.NewClassTree;
import com.sun.source.tree.SynchronizedTree;
import com.sun.source.tree.ThrowTree;
import com.sun.source.tree.Tree;
import com.sun.source.tree.TryTree;
import com.sun.source.tree.TypeCastTree;
import com.sun.source.tree.VariableTree;
import com.sun.source.tree.WhileLoopTree;
import com.sun.source.util.JavacTask;
import com.sun.source.util.SourcePositions;
import com.sun.source.util.TreePathScanner;
import com.sun.source.util.Trees;
import java.nio.file.Path;
import java.util.HashMap;
import java.util.LinkedHashSet;
import java.util.List;
import java.util.Map;
import java.util.Set;
import javax.lang.model.element.Element;
import javax.lang.model.element.ElementKind;
import javax.lang.model.element.Modifier;
import javax.tools.JavaCompiler;
import javax.tools.StandardJavaFileManager;
import javax.tools.ToolProvider;

/** The rules of LANGUAGE.md that tell a number or forbid a form, held against the source as the compiler reads it. */
public final class RulesTest {
    private static final Path SOURCE = Path.of("src/main/java/HingeCards.java");
    private static final int MOST_PARAMETERS = 7, MOST_LINES = 60, MOST_DEPTH = 8, MOST_CLASSES = 12, MOST_FIELDS = 20;
    /** Beside these the classes inside may be used. */
    private static final Set<String> TYPES = Set.of("int", "boolean", "int[]");
    private static final Set<String> LIBRARY = Set.of("java.lang.Math.min", "java.lang.Math.max", "java.lang.Math.abs",
            "java.lang.Integer.bitCount", "java.util.Arrays.fill", "java.lang.Object.<init>");

    private RulesTest() {
    }

    public static void main(String[] args) throws Exception {
        Due due = new Due();
        JavaCompiler compiler = ToolProvider.getSystemJavaCompiler();
        try (StandardJavaFileManager files = compiler.getStandardFileManager(null, null, null)) {
            JavacTask task = (JavacTask) compiler.getTask(null, files, null, List.of("-proc:none", "-Xlint:none"), null,
                    files.getJavaFileObjects(SOURCE));
            CompilationUnitTree unit = task.parse().iterator().next();
            task.analyze();
            Reader reader = new Reader(due, Trees.instance(task), unit);
            reader.scan(unit, null);
            reader.end();
        }
        due.end("RulesTest");
    }

    private static final class Reader extends TreePathScanner<Void, Void> {
        private final Due due;
        private final Trees trees;
        private final CompilationUnitTree unit;
        private final Map<Element, Set<Element>> calls = new HashMap<>();
        private int classes = 0;
        private Element method = null;

        Reader(Due due, Trees trees, CompilationUnitTree unit) {
            this.due = due;
            this.trees = trees;
            this.unit = unit;
        }

        void end() {
            due.holds("rule 11: " + classes + " classes", classes > 0 && classes <= MOST_CLASSES);
            due.holds("methods were read", calls.size() > 20);
            for (Element start : calls.keySet()) {
                int depth = depthOf(start, new LinkedHashSet<>());
                due.holds("rule 11: " + start + " goes " + depth + " deep", depth <= MOST_DEPTH);
            }
        }

        /** Rule 8: what calls itself is to carry its depth; nothing here does, so no method may come again. */
        private int depthOf(Element start, Set<Element> open) {
            boolean isNew = open.add(start);
            due.holds("rule 8: " + start + " calls itself", isNew);
            int deepest = 0;
            if (isNew) {
                for (Element next : calls.getOrDefault(start, Set.of())) {
                    deepest = Math.max(deepest, depthOf(next, open));
                }
                open.remove(start);
            }
            return deepest + 1;
        }

        @Override
        public Void visitClass(ClassTree node, Void none) {
            classes++;
            Element element = trees.getElement(getCurrentPath());
            boolean isOuter = getCurrentPath().getParentPath().getLeaf() == unit;
            Set<Modifier> has = node.getModifiers().getFlags();
            due.holds("rule 2: " + node.getSimpleName() + " is static", isOuter || has.contains(Modifier.STATIC));
            due.holds("rule 2: it stands in a class", isOuter || element.getEnclosingElement().getKind() == ElementKind.CLASS);
            int fields = 0;
            for (Tree member : node.getMembers()) {
                due.holds("rule 5: no block", member.getKind() != Tree.Kind.BLOCK);
                if (!(member instanceof VariableTree field)) continue;
                Set<Modifier> flags = field.getModifiers().getFlags();
                if (!flags.contains(Modifier.STATIC)) fields++;
                else due.holds("rule 5: " + field.getName() + " is final", flags.contains(Modifier.FINAL));
            }
            due.holds("rule 11: " + node.getSimpleName() + " has " + fields + " fields", fields <= MOST_FIELDS);
            return super.visitClass(node, none);
        }

        @Override
        public Void visitMethod(MethodTree node, Void none) {
            Element before = method;
            method = trees.getElement(getCurrentPath());
            calls.putIfAbsent(method, new LinkedHashSet<>());
            due.holds("rule 11: parameters of " + method, node.getParameters().size() <= MOST_PARAMETERS);
            SourcePositions at = trees.getSourcePositions();
            long first = unit.getLineMap().getLineNumber(at.getStartPosition(unit, node));
            long last = unit.getLineMap().getLineNumber(Math.max(at.getEndPosition(unit, node), at.getStartPosition(unit, node)));
            due.holds("rule 11: lines of " + method, last - first < MOST_LINES);
            super.visitMethod(node, none);
            method = before;
            return null;
        }

        @Override
        public Void visitMethodInvocation(MethodInvocationTree node, Void none) {
            meetCall(trees.getElement(getCurrentPath()));
            return super.visitMethodInvocation(node, none);
        }

        @Override
        public Void visitNewClass(NewClassTree node, Void none) {
            due.holds("rule 2: no anonymous class", node.getClassBody() == null);
            due.holds("rule 12: objects are made by constructors alone", isOfConstructor());
            meetCall(trees.getElement(getCurrentPath()));
            return super.visitNewClass(node, none);
        }

        @Override
        public Void visitNewArray(NewArrayTree node, Void none) {
            due.holds("rule 12: arrays are made by constructors alone", isOfConstructor());
            due.holds("rule 3: of one dimension", node.getDimensions().size() <= 1);
            return super.visitNewArray(node, none);
        }

        private boolean isOfConstructor() {
            return method == null || method.getKind() == ElementKind.CONSTRUCTOR;
        }

        private void meetCall(Element called) {
            boolean isFound = called != null;
            due.holds("a call is read", isFound);
            if (!isFound) return;
            String owner = called.getEnclosingElement().toString();
            if (owner.startsWith("HingeCards")) {
                if (method != null) calls.get(method).add(called);
                return;
            }
            String name = owner + "." + called.getSimpleName();
            due.holds("rule 4: " + name, LIBRARY.contains(name));
        }

        @Override
        public Void visitVariable(VariableTree node, Void none) {
            String type = String.valueOf(node.getType());
            due.holds("rule 3: " + node, TYPES.contains(type) || isInside(type));
            return super.visitVariable(node, none);
        }

        private static boolean isInside(String type) {
            for (Class<?> inside : HingeCards.class.getDeclaredClasses()) if (inside.getSimpleName().equals(type)) return true;
            return false;
        }

        @Override
        public Void visitForLoop(ForLoopTree node, Void none) {
            due.holds("rule 9: a counter against a bound",
                    node.getCondition() != null && node.getInitializer().size() == 1 && node.getUpdate().size() == 1);
            return super.visitForLoop(node, none);
        }

        @Override
        public Void visitWhileLoop(WhileLoopTree node, Void none) {
            return refuse("rule 9: a loop without a counter", node);
        }

        @Override
        public Void visitDoWhileLoop(DoWhileLoopTree node, Void none) {
            return refuse("rule 9: a loop without a counter", node);
        }

        @Override
        public Void visitLambdaExpression(LambdaExpressionTree node, Void none) {
            return refuse("rule 2: lambda", node);
        }

        @Override
        public Void visitMemberReference(MemberReferenceTree node, Void none) {
            return refuse("rule 2: method reference", node);
        }

        @Override
        public Void visitThrow(ThrowTree node, Void none) {
            return refuse("rule 6: throw", node);
        }

        @Override
        public Void visitTry(TryTree node, Void none) {
            return refuse("rule 6: try", node);
        }

        @Override
        public Void visitAssert(AssertTree node, Void none) {
            return refuse("rule 6: assert", node);
        }

        @Override
        public Void visitSynchronized(SynchronizedTree node, Void none) {
            return refuse("rule 6: synchronized", node);
        }

        @Override
        public Void visitTypeCast(TypeCastTree node, Void none) {
            return refuse("rule 6: a cast", node);
        }

        private Void refuse(String what, Tree node) {
            due.holds(what + ": " + node, false);
            return null;
        }
    }
}
