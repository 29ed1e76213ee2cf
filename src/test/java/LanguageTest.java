import com.sun.source.tree.ArrayAccessTree;
import com.sun.source.tree.AssertTree;
import com.sun.source.tree.BinaryTree;
import com.sun.source.tree.CompilationUnitTree;
import com.sun.source.tree.DoWhileLoopTree;
import com.sun.source.tree.EnhancedForLoopTree;
import com.sun.source.tree.ExpressionTree;
import com.sun.source.tree.ForLoopTree;
import com.sun.source.tree.IdentifierTree;
import com.sun.source.tree.LambdaExpressionTree;
import com.sun.source.tree.MemberReferenceTree;
import com.sun.source.tree.MemberSelectTree;
import com.sun.source.tree.MethodInvocationTree;
import com.sun.source.tree.MethodTree;
import com.sun.source.tree.NewArrayTree;
import com.sun.source.tree.NewClassTree;
import com.sun.source.tree.SynchronizedTree;
import com.sun.source.tree.ThrowTree;
import com.sun.source.tree.Tree;
import com.sun.source.tree.TryTree;
import com.sun.source.tree.TypeCastTree;
import com.sun.source.tree.VariableTree;
import com.sun.source.tree.WhileLoopTree;
import com.sun.source.util.JavacTask;
import com.sun.source.util.TreePath;
import com.sun.source.util.TreePathScanner;
import com.sun.source.util.TreeScanner;
import com.sun.source.util.Trees;
import java.io.IOException;
import java.nio.charset.StandardCharsets;
import java.nio.file.Path;
import java.util.HashMap;
import java.util.HashSet;
import java.util.List;
import java.util.Map;
import java.util.Set;
import java.util.TreeSet;
import javax.lang.model.element.Element;
import javax.lang.model.element.ElementKind;
import javax.lang.model.element.VariableElement;
import javax.tools.JavaCompiler;
import javax.tools.StandardJavaFileManager;
import javax.tools.ToolProvider;

/** LANGUAGE.md, as far as the compiler's own tree of the class can tell; the number of the rule stands with each answer. */
public final class LanguageTest {
    private static final Due DUE = new Due();
    private static final Path SOURCE = Path.of("src/main/java/GrowingStacks.java");
    private static final Set<String> LIBRARY = Set.of("System.arraycopy", "Arrays.fill", "Math.max", "Math.min", "Object.<init>");
    /** Those that look at an argument before it is used as an index. */
    private static final Set<String> LOOKS = Set.of("isTask", "isFunction", "hasFrame");

    public static void main(String[] args) throws IOException {
        JavaCompiler javac = ToolProvider.getSystemJavaCompiler();
        try (StandardJavaFileManager files = javac.getStandardFileManager(null, null, StandardCharsets.UTF_8)) {
            JavacTask task = (JavacTask) javac.getTask(null, files, null, List.of("-proc:none"), null,
                files.getJavaFileObjects(SOURCE));
            Iterable<? extends CompilationUnitTree> units = task.parse();
            task.analyze();
            for (CompilationUnitTree unit : units) {
                Rules rules = new Rules(Trees.instance(task), unit);
                rules.scan(unit, null);
                rules.depths();
            }
        }
        DUE.end();
    }

    /** Goes over the whole class, and keeps who calls whom. */
    private static final class Rules extends TreePathScanner<Void, Void> {
        private final Trees trees;
        private final CompilationUnitTree unit;
        private final Map<Element, Set<Element>> calls = new HashMap<>();
        private final Map<Element, Integer> known = new HashMap<>();
        private MethodTree method;
        private int divisions;
        private int indexes;

        Rules(Trees trees, CompilationUnitTree unit) {
            this.trees = trees;
            this.unit = unit;
        }

        private String at(Tree tree) {
            long line = unit.getLineMap().getLineNumber(trees.getSourcePositions().getStartPosition(unit, tree));
            return "line " + line + ": " + tree + ": ";
        }

        private Element elementOf(Tree tree) {
            return trees.getElement(new TreePath(getCurrentPath(), tree));
        }

        private void refused(String rule, Tree tree) {
            DUE.no(at(tree) + rule, true);
        }

        @Override
        public Void visitMethod(MethodTree tree, Void v) {
            MethodTree outer = method;
            method = tree;
            calls.put(trees.getElement(getCurrentPath()), new HashSet<>());
            long from = unit.getLineMap().getLineNumber(trees.getSourcePositions().getStartPosition(unit, tree));
            long to = unit.getLineMap().getLineNumber(trees.getSourcePositions().getEndPosition(unit, tree));
            DUE.yes(tree.getName() + " has some sixty lines at most (rule 11)", to - from < 60);
            DUE.yes(tree.getName() + " has seven parameters at most (rule 11)", tree.getParameters().size() <= 7);
            super.visitMethod(tree, v);
            method = outer;
            return null;
        }

        @Override
        public Void visitMethodInvocation(MethodInvocationTree tree, Void v) {
            called(tree, elementOf(tree.getMethodSelect()));
            return super.visitMethodInvocation(tree, v);
        }

        private void called(Tree tree, Element e) {
            Element owner = e.getEnclosingElement();
            if (owner.toString().startsWith("GrowingStacks")) {
                if (method != null) {
                    calls.get(methodElement()).add(e);
                }
            } else {
                String name = owner.getSimpleName() + "." + e.getSimpleName();
                DUE.yes(at(tree) + "is in the library (rule 4)", LIBRARY.contains(name));
            }
        }

        private Element methodElement() {
            TreePath path = getCurrentPath();
            while (path.getLeaf() != method) {
                path = path.getParentPath();
            }
            return trees.getElement(path);
        }

        private boolean inConstructor() {
            return method == null || method.getName().contentEquals("<init>");
        }

        @Override
        public Void visitNewClass(NewClassTree tree, Void v) {
            DUE.yes(at(tree) + "is made by a constructor alone (rule 12)", inConstructor());
            DUE.yes(at(tree) + "has no body of its own (rule 2)", tree.getClassBody() == null);
            called(tree, trees.getElement(getCurrentPath()));
            return super.visitNewClass(tree, v);
        }

        @Override
        public Void visitNewArray(NewArrayTree tree, Void v) {
            DUE.yes(at(tree) + "is made by a constructor alone (rule 12)", inConstructor());
            return super.visitNewArray(tree, v);
        }

        @Override
        public Void visitVariable(VariableTree tree, Void v) {
            Element e = trees.getElement(getCurrentPath());
            if (e.getKind() == ElementKind.FIELD && e.getModifiers().toString().contains("static")) {
                boolean written = ((VariableElement) e).getConstantValue() != null || tree.getInitializer() instanceof NewArrayTree;
                DUE.yes(at(tree) + "is a constant (rule 5)", e.getModifiers().toString().contains("final") && written);
            }
            Set<String> types = Set.of("int", "int[]", "boolean", "Task[]");
            String type = tree.getType().toString();
            DUE.yes(at(tree) + "has a type of the language (rule 3)",
                types.contains(type) || e.asType().toString().startsWith("GrowingStacks."));
            return super.visitVariable(tree, v);
        }

        @Override
        public Void visitThrow(ThrowTree tree, Void v) {
            refused("no throw (rule 6)", tree);
            return null;
        }

        @Override
        public Void visitTry(TryTree tree, Void v) {
            refused("no try (rule 6)", tree);
            return null;
        }

        @Override
        public Void visitSynchronized(SynchronizedTree tree, Void v) {
            refused("no synchronized (rule 6)", tree);
            return null;
        }

        @Override
        public Void visitAssert(AssertTree tree, Void v) {
            refused("no assert (rule 6)", tree);
            return null;
        }

        @Override
        public Void visitLambdaExpression(LambdaExpressionTree tree, Void v) {
            refused("no lambda (rule 2)", tree);
            return null;
        }

        @Override
        public Void visitMemberReference(MemberReferenceTree tree, Void v) {
            refused("no method reference (rule 2)", tree);
            return null;
        }

        @Override
        public Void visitTypeCast(TypeCastTree tree, Void v) {
            refused("no cast is needed (rule 6)", tree);
            return null;
        }

        @Override
        public Void visitWhileLoop(WhileLoopTree tree, Void v) {
            refused("a counter against a bound is a for (rule 9)", tree);
            return null;
        }

        @Override
        public Void visitDoWhileLoop(DoWhileLoopTree tree, Void v) {
            refused("a counter against a bound is a for (rule 9)", tree);
            return null;
        }

        @Override
        public Void visitForLoop(ForLoopTree tree, Void v) {
            boolean counted = tree.getCondition() != null && tree.getUpdate().size() == 1 && tree.getInitializer().size() == 1;
            DUE.yes(at(tree) + "has an end (rule 9)", counted && !compared(tree.getCondition()).isEmpty());
            return super.visitForLoop(tree, v);
        }

        @Override
        public Void visitEnhancedForLoop(EnhancedForLoopTree tree, Void v) {
            String type = trees.getTypeMirror(new TreePath(getCurrentPath(), tree.getExpression())).toString();
            DUE.yes(at(tree) + "goes over an array (rule 12)", type.endsWith("[]"));
            return super.visitEnhancedForLoop(tree, v);
        }

        @Override
        public Void visitBinary(BinaryTree tree, Void v) {
            if (tree.getKind() == Tree.Kind.DIVIDE || tree.getKind() == Tree.Kind.REMAINDER) {
                divisions++;
                String divisor = tree.getRightOperand().toString();
                DUE.yes(at(tree) + "has a constant for a divisor (rule 7)", divisor.equals("2") || divisor.equals("LOG_LINES"));
            }
            return super.visitBinary(tree, v);
        }

        /** Each name in an index is a constant, or is looked at in this method, or is made there of such. */
        @Override
        public Void visitArrayAccess(ArrayAccessTree tree, Void v) {
            indexes++;
            for (String name : names(tree.getIndex())) {
                DUE.yes(at(tree) + name + " is looked at before it is used (rule 7)", lookedAt(name, 0));
            }
            return super.visitArrayAccess(tree, v);
        }

        private boolean lookedAt(String name, int depth) {
            if (compared(method).contains(name)) {
                return true;
            }
            Set<String> of = madeOf(name);
            boolean all = !of.isEmpty() && depth < 5;
            for (String n : of) {
                all = all && lookedAt(n, depth + 1);
            }
            return all;
        }

        /** The names of which a variable of this method is made where it is told. */
        private Set<String> madeOf(String name) {
            Set<String> found = new TreeSet<>();
            new TreeScanner<Void, Void>() {
                @Override
                public Void visitVariable(VariableTree tree, Void v) {
                    if (tree.getName().contentEquals(name) && tree.getInitializer() != null) {
                        found.addAll(names(tree.getInitializer()));
                    }
                    return super.visitVariable(tree, v);
                }
            }.scan(method, null);
            return found;
        }

        /** Names of variables (those in capitals are constants). */
        private static Set<String> names(Tree tree) {
            Set<String> found = new TreeSet<>();
            new TreeScanner<Void, Void>() {
                @Override
                public Void visitIdentifier(IdentifierTree id, Void v) {
                    String name = id.getName().toString();
                    if (!name.equals(name.toUpperCase(java.util.Locale.ROOT))) {
                        found.add(name);
                    }
                    return null;
                }

                @Override
                public Void visitMemberSelect(MemberSelectTree select, Void v) {
                    found.add(select.getIdentifier().toString());
                    return null;
                }
            }.scan(tree, null);
            return found;
        }

        /** Names that stand on one side of a comparison, or are given to a method that looks at them. */
        private static Set<String> compared(Tree tree) {
            Set<String> found = new TreeSet<>();
            new TreeScanner<Void, Void>() {
                @Override
                public Void visitBinary(BinaryTree binary, Void v) {
                    if (Set.of(Tree.Kind.LESS_THAN, Tree.Kind.LESS_THAN_EQUAL, Tree.Kind.GREATER_THAN,
                            Tree.Kind.GREATER_THAN_EQUAL).contains(binary.getKind())) {
                        found.addAll(names(binary.getLeftOperand()));
                        found.addAll(names(binary.getRightOperand()));
                    }
                    return super.visitBinary(binary, v);
                }

                @Override
                public Void visitMethodInvocation(MethodInvocationTree call, Void v) {
                    if (LOOKS.contains(call.getMethodSelect().toString())) {
                        for (ExpressionTree argument : call.getArguments()) {
                            found.addAll(names(argument));
                        }
                    }
                    return super.visitMethodInvocation(call, v);
                }
            }.scan(tree, null);
            return found;
        }

        /** "calls that are no recursion go at most eight deep", and there is no recursion. */
        void depths() {
            DUE.yes("the tree is seen: " + calls.size() + " methods, " + indexes + " indexes, " + divisions + " divisions",
                calls.size() > 100 && indexes > 50 && divisions > 2);
            for (Element e : calls.keySet()) {
                int depth = depth(e, new HashSet<>());
                DUE.yes(e.getEnclosingElement() + "." + e + " goes " + depth + " deep (rule 11)", depth <= 8);
            }
        }

        private int depth(Element e, Set<Element> way) {
            if (known.containsKey(e)) {
                return known.get(e);
            }
            if (!way.add(e)) {
                DUE.no(e + " calls itself (rule 8)", true);
                return 1;
            }
            int most = 0;
            for (Element called : calls.getOrDefault(e, Set.of())) {
                most = Math.max(most, depth(called, way));
            }
            way.remove(e);
            known.put(e, most + 1);
            return most + 1;
        }
    }
}
