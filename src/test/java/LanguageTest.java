import com.sun.source.tree.AssertTree;
import com.sun.source.tree.BinaryTree;
import com.sun.source.tree.BlockTree;
import com.sun.source.tree.ClassTree;
import com.sun.source.tree.CompilationUnitTree;
import com.sun.source.tree.CompoundAssignmentTree;
import com.sun.source.tree.ExpressionTree;
import com.sun.source.tree.ForLoopTree;
import com.sun.source.tree.IdentifierTree;
import com.sun.source.tree.ImportTree;
import com.sun.source.tree.InstanceOfTree;
import com.sun.source.tree.LambdaExpressionTree;
import com.sun.source.tree.LiteralTree;
import com.sun.source.tree.MemberReferenceTree;
import com.sun.source.tree.MethodInvocationTree;
import com.sun.source.tree.MethodTree;
import com.sun.source.tree.NewArrayTree;
import com.sun.source.tree.NewClassTree;
import com.sun.source.tree.SynchronizedTree;
import com.sun.source.tree.ThrowTree;
import com.sun.source.tree.Tree;
import com.sun.source.tree.TryTree;
import com.sun.source.tree.TypeCastTree;
import com.sun.source.tree.VariableTree;
import com.sun.source.tree.WhileLoopTree;
import com.sun.source.util.JavacTask;
import com.sun.source.util.TreePath;
import com.sun.source.util.TreePathScanner;
import com.sun.source.util.Trees;
import java.nio.file.Files;
import java.nio.file.Path;
import java.util.ArrayList;
import java.util.LinkedHashMap;
import java.util.LinkedHashSet;
import java.util.List;
import java.util.Map;
import java.util.Set;
import java.util.TreeSet;
import javax.lang.model.element.Element;
import javax.lang.model.element.ElementKind;
import javax.lang.model.element.ExecutableElement;
import javax.lang.model.element.Modifier;
import javax.lang.model.type.TypeMirror;
import javax.tools.JavaCompiler;
import javax.tools.StandardJavaFileManager;
import javax.tools.ToolProvider;

/**
 * The class keeps to the rules of ../shared/LANGUAGE.md, as far as its tree tells; it keeps to less than
 * they leave, so what this test refuses may be allowed: then look at the rule and widen the test.
 */
public final class LanguageTest {
    private static final String SOURCE = "src/main/java/FlatPlan.java";
    private static final Set<String> LIBRARY = Set.of("Math.max", "Math.min", "Math.abs", "Integer.bitCount",
            "System.arraycopy", "Arrays.fill", "String.length", "String.charAt", "Object.<init>");
    private static final Set<String> THROWN = Set.of("IllegalArgumentException", "IndexOutOfBoundsException",
            "ArithmeticException");
    private static final int DEEPEST = 8;
    private static final int LONGEST = 60;

    public static void main(String[] args) throws Exception {
        Check check = new Check("LanguageTest");
        JavaCompiler compiler = ToolProvider.getSystemJavaCompiler();
        try (StandardJavaFileManager files = compiler.getStandardFileManager(null, null, null)) {
            JavacTask task = (JavacTask) compiler.getTask(null, files, null, List.of("-proc:none"), null,
                    files.getJavaFileObjects(Path.of(SOURCE)));
            CompilationUnitTree unit = task.parse().iterator().next();
            task.analyze();
            Rules rules = new Rules(Trees.instance(task), unit);
            rules.scan(unit, null);
            rules.tell(check);
        }
        check.same("no sign but those of ASCII",
                Files.readString(Path.of(SOURCE)).chars().allMatch(one -> one == '\n' || one >= 32 && one < 127), true);
        check.end();
    }

    /** Walks through the tree, gathers what breaks a rule, and which method calls which. */
    private static final class Rules extends TreePathScanner<Void, Void> {
        final Trees trees;
        final CompilationUnitTree unit;
        final Set<String> broken = new TreeSet<>();
        final Map<String, Set<String>> calls = new LinkedHashMap<>();
        final Set<String> types = new TreeSet<>();
        final Set<String> seen = new TreeSet<>();
        String method = "";
        int classes;

        Rules(Trees trees, CompilationUnitTree unit) {
            this.trees = trees;
            this.unit = unit;
        }

        void tell(Check check) {
            check.same("the broken rules", broken, Set.of());
            check.same("the types", Set.of("int", "boolean", "double", "char", "void", "String", "int[]", "Reader", "Bytes",
                    "Searches", "Plan", "History", "State", "State[]", "Ads", "Stories", "Standbys", "Forms").containsAll(types)
                    ? "allowed" : types, "allowed");
            check.same("some twelve classes", classes <= 12, true);
            check.same("methods are seen", calls.size() > 100, true);
            check.same("library is seen", seen, LIBRARY);
            for (String caller : calls.keySet()) {
                List<String> way = longestWay(caller, new ArrayList<>());
                check.same("calls " + way + " go at most " + DEEPEST + " deep", way.size() <= DEEPEST, true);
            }
        }

        /** The longest chain of calls that begins with a method; a method that comes back is told as broken. */
        private List<String> longestWay(String from, List<String> before) {
            List<String> longest = new ArrayList<>(List.of(from));
            if (before.contains(from)) {
                throw new IllegalStateException("rule 8: recursion " + before + " " + from);
            }
            List<String> here = new ArrayList<>(before);
            here.add(from);
            for (String called : calls.getOrDefault(from, Set.of())) {
                List<String> way = longestWay(called, here);
                if (way.size() + 1 > longest.size()) {
                    longest = new ArrayList<>(List.of(from));
                    longest.addAll(way);
                }
            }
            return longest;
        }

        private void breaks(int rule, Tree tree) {
            long at = trees.getSourcePositions().getStartPosition(unit, tree);
            String words = tree.toString().lines().findFirst().orElse("");
            broken.add("rule " + rule + ", line " + unit.getLineMap().getLineNumber(at) + ": " + words);
        }

        private long linesOf(Tree tree) {
            long start = trees.getSourcePositions().getStartPosition(unit, tree);
            long end = trees.getSourcePositions().getEndPosition(unit, tree);
            return unit.getLineMap().getLineNumber(end) - unit.getLineMap().getLineNumber(start) + 1;
        }

        private static String shortened(String name) {
            return name.substring(name.lastIndexOf('.') + 1);
        }

        private Element elementOf(Tree tree) {
            return trees.getElement(TreePath.getPath(unit, tree));
        }

        private TypeMirror typeOf(Tree tree) {
            return trees.getTypeMirror(TreePath.getPath(unit, tree));
        }

        private boolean isInConstructor() {
            return method.endsWith("<init>");
        }

        private boolean isInThrow() {
            return getCurrentPath().getParentPath().getLeaf() instanceof ThrowTree;
        }

        private boolean isInLoop() {
            for (TreePath at = getCurrentPath(); at != null; at = at.getParentPath()) {
                Tree.Kind kind = at.getLeaf().getKind();
                if (kind == Tree.Kind.FOR_LOOP || kind == Tree.Kind.WHILE_LOOP || kind == Tree.Kind.DO_WHILE_LOOP
                        || kind == Tree.Kind.ENHANCED_FOR_LOOP) {
                    return true;
                }
            }
            return false;
        }

        private void called(Element element) {
            String owner = shortened(element.getEnclosingElement().toString());
            String name = owner + "." + element.getSimpleName();
            if (element.getEnclosingElement().toString().startsWith("FlatPlan")) {
                calls.computeIfAbsent(method, any -> new LinkedHashSet<>()).add(name);
            } else if (!THROWN.contains(owner)) {
                seen.add(name);
            }
        }

        @Override
        public Void visitImport(ImportTree tree, Void none) {
            if (!tree.toString().trim().equals("import java.util.Arrays;")) {
                breaks(4, tree);
            }
            return super.visitImport(tree, none);
        }

        @Override
        public Void visitClass(ClassTree tree, Void none) {
            classes++;
            int fields = 0;
            for (Tree member : tree.getMembers()) {
                boolean isField = member instanceof VariableTree;
                fields += isField && !((VariableTree) member).getModifiers().getFlags().contains(Modifier.STATIC) ? 1 : 0;
                if (member instanceof BlockTree) {
                    breaks(5, member);
                }
            }
            if (fields > 20) {
                breaks(11, tree);
            }
            boolean inside = getCurrentPath().getParentPath().getLeaf() instanceof ClassTree;
            Set<Modifier> flags = tree.getModifiers().getFlags();
            if (inside && !flags.equals(Set.of(Modifier.PRIVATE, Modifier.STATIC, Modifier.FINAL))) {
                breaks(1, tree);
            }
            if (tree.getKind() != Tree.Kind.CLASS || elementOf(tree).getEnclosingElement().getKind() == ElementKind.METHOD) {
                breaks(2, tree);
            }
            return super.visitClass(tree, none);
        }

        @Override
        public Void visitMethod(MethodTree tree, Void none) {
            ExecutableElement element = (ExecutableElement) elementOf(tree);
            String before = method;
            method = shortened(element.getEnclosingElement().toString()) + "." + element.getSimpleName();
            if (calls.containsKey(method) && !isInConstructor()) {
                broken.add("two methods are named " + method);
            }
            calls.computeIfAbsent(method, any -> new LinkedHashSet<>());
            types.add(shortened(element.getReturnType().toString()));
            if (tree.getParameters().size() > 7 || linesOf(tree) > LONGEST) {
                breaks(11, tree);
            }
            super.visitMethod(tree, none);
            method = before;
            return null;
        }

        @Override
        public Void visitVariable(VariableTree tree, Void none) {
            Element element = elementOf(tree);
            types.add(shortened(element.asType().toString()));
            boolean isStatic = element.getModifiers().contains(Modifier.STATIC);
            boolean isConstant = element.getModifiers().contains(Modifier.FINAL)
                    && element.asType().toString().equals("int");
            if (isStatic && !isConstant) {
                breaks(5, tree);
            }
            String before = method;
            if (element.getKind() == ElementKind.FIELD) {
                method = shortened(element.getEnclosingElement().toString()) + ".<init>";
            }
            super.visitVariable(tree, none);
            method = before;
            return null;
        }

        @Override
        public Void visitMethodInvocation(MethodInvocationTree tree, Void none) {
            called(elementOf(tree));
            return super.visitMethodInvocation(tree, none);
        }

        @Override
        public Void visitNewClass(NewClassTree tree, Void none) {
            called(elementOf(tree));
            String made = shortened(typeOf(tree).toString());
            boolean keptRing = method.equals("History.<init>") && made.equals("State");
            if (tree.getClassBody() != null) {
                breaks(2, tree);
            }
            if (!isInThrow() && !isInConstructor() || isInLoop() && !keptRing) {
                breaks(12, tree);
            }
            return super.visitNewClass(tree, none);
        }

        @Override
        public Void visitNewArray(NewArrayTree tree, Void none) {
            if (!isInConstructor() || isInLoop() || tree.getDimensions().size() != 1) {
                breaks(12, tree);
            }
            return super.visitNewArray(tree, none);
        }

        @Override
        public Void visitThrow(ThrowTree tree, Void none) {
            ExpressionTree thrown = tree.getExpression();
            boolean isNew = thrown instanceof NewClassTree;
            boolean isTold = isNew && THROWN.contains(((NewClassTree) thrown).getIdentifier().toString());
            List<? extends ExpressionTree> words = isNew ? ((NewClassTree) thrown).getArguments() : List.of();
            if (!isTold || isInConstructor() || words.size() != 1 || words.get(0).getKind() != Tree.Kind.STRING_LITERAL) {
                breaks(6, tree);
            }
            return super.visitThrow(tree, none);
        }

        @Override
        public Void visitLiteral(LiteralTree tree, Void none) {
            if (tree.getKind() == Tree.Kind.NULL_LITERAL) {
                breaks(7, tree);
            }
            return super.visitLiteral(tree, none);
        }

        @Override
        public Void visitBinary(BinaryTree tree, Void none) {
            boolean divides = tree.getKind() == Tree.Kind.DIVIDE || tree.getKind() == Tree.Kind.REMAINDER;
            boolean known = tree.getRightOperand() instanceof LiteralTree || method.equals("FlatPlan.fill")
                    || method.equals("FlatPlan.quarterPrice") || method.equals("Searches.lateItemAt");
            if (divides && !known) {
                breaks(7, tree);
            }
            if (shortened(typeOf(tree).toString()).equals("String")) {
                breaks(10, tree);
            }
            return super.visitBinary(tree, none);
        }

        @Override
        public Void visitCompoundAssignment(CompoundAssignmentTree tree, Void none) {
            if (tree.getKind() != Tree.Kind.PLUS_ASSIGNMENT && tree.getKind() != Tree.Kind.MINUS_ASSIGNMENT
                    || !typeOf(tree.getVariable()).toString().equals("int")) {
                breaks(10, tree);
            }
            return super.visitCompoundAssignment(tree, none);
        }

        @Override
        public Void visitForLoop(ForLoopTree tree, Void none) {
            if (tree.getCondition() == null || tree.getUpdate().size() != 1) {
                breaks(9, tree);
            }
            return super.visitForLoop(tree, none);
        }

        @Override
        public Void visitWhileLoop(WhileLoopTree tree, Void none) {
            boolean known = method.equals("Reader.nextToken") || method.equals("Searches.insertAd");
            if (!known) {
                breaks(9, tree);
            }
            return super.visitWhileLoop(tree, none);
        }

        @Override
        public Void visitIdentifier(IdentifierTree tree, Void none) {
            if (tree.getName().contentEquals("this")) {
                breaks(12, tree);
            }
            return super.visitIdentifier(tree, none);
        }

        @Override
        public Void visitTypeCast(TypeCastTree tree, Void none) {
            if (!tree.getType().toString().equals("double")) {
                breaks(6, tree);
            }
            return super.visitTypeCast(tree, none);
        }

        @Override
        public Void visitTry(TryTree tree, Void none) {
            breaks(6, tree);
            return super.visitTry(tree, none);
        }

        @Override
        public Void visitSynchronized(SynchronizedTree tree, Void none) {
            breaks(6, tree);
            return super.visitSynchronized(tree, none);
        }

        @Override
        public Void visitAssert(AssertTree tree, Void none) {
            breaks(6, tree);
            return super.visitAssert(tree, none);
        }

        @Override
        public Void visitInstanceOf(InstanceOfTree tree, Void none) {
            breaks(6, tree);
            return super.visitInstanceOf(tree, none);
        }

        @Override
        public Void visitLambdaExpression(LambdaExpressionTree tree, Void none) {
            breaks(2, tree);
            return super.visitLambdaExpression(tree, none);
        }

        @Override
        public Void visitMemberReference(MemberReferenceTree tree, Void none) {
            breaks(2, tree);
            return super.visitMemberReference(tree, none);
        }
    }
}
