import com.sun.source.tree.ArrayAccessTree;
import com.sun.source.tree.AssertTree;
import com.sun.source.tree.BinaryTree;
import com.sun.source.tree.BlockTree;
import com.sun.source.tree.ClassTree;
import com.sun.source.tree.CompoundAssignmentTree;
import com.sun.source.tree.ConditionalExpressionTree;
import com.sun.source.tree.DoWhileLoopTree;
import com.sun.source.tree.EnhancedForLoopTree;
import com.sun.source.tree.ExpressionTree;
import com.sun.source.tree.ForLoopTree;
import com.sun.source.tree.IfTree;
import com.sun.source.tree.LambdaExpressionTree;
import com.sun.source.tree.LiteralTree;
import com.sun.source.tree.MemberReferenceTree;
import com.sun.source.tree.MethodTree;
import com.sun.source.tree.NewClassTree;
import com.sun.source.tree.SynchronizedTree;
import com.sun.source.tree.ThrowTree;
import com.sun.source.tree.Tree;
import com.sun.source.tree.TryTree;
import com.sun.source.tree.TypeCastTree;
import com.sun.source.tree.VariableTree;
import com.sun.source.tree.WhileLoopTree;
import com.sun.source.util.TreePath;
import com.sun.source.util.TreePathScanner;
import java.io.IOException;
import java.nio.file.Files;
import java.nio.file.Path;
import java.util.List;
import java.util.Set;
import java.util.TreeSet;
import java.util.regex.Pattern;
import javax.lang.model.element.Element;
import javax.lang.model.element.ElementKind;
import javax.lang.model.element.Modifier;
import javax.lang.model.element.VariableElement;

/** The rules of LANGUAGE.md that can be seen in the text of the class, by their numbers. */
public final class LanguageTest {
    private static final Path FILE = Path.of("src/main/java/WaistSand.java");
    // Narrower than the rules: what the class has no need of is left out.
    private static final Pattern TYPES = Pattern.compile("void|((int|long|byte|char|boolean)|WaistSand(\\.\\w+)?)(\\[\\])?|java\\.lang\\.String");
    private static final Pattern LIBRARY = Pattern.compile("java\\.lang\\.(Object\\.Object\\(\\)|String\\.(charAt\\(int\\)|length\\(\\))"
        + "|Math\\.(abs|max|min)\\(int(,int)?\\)|Long\\.bitCount\\(long\\)|System\\.arraycopy\\(.*\\))"
        + "|java\\.util\\.Arrays\\.(copyOf|fill)\\((int|long|byte|char)\\[\\],int\\)"
        + "|java\\.(lang|util)\\.(?<made>\\w+Exception)\\.\\k<made>\\(java\\.lang\\.String\\)");
    private static final Set<String> EXCEPTIONS = Set.of("IllegalStateException", "IllegalArgumentException",
        "IndexOutOfBoundsException", "ArithmeticException", "UnsupportedOperationException", "NoSuchElementException", "RuntimeException");
    private static final Set<Tree.Kind> RELATIONS = Set.of(Tree.Kind.LESS_THAN, Tree.Kind.LESS_THAN_EQUAL, Tree.Kind.GREATER_THAN,
        Tree.Kind.GREATER_THAN_EQUAL);

    public static void main(String[] args) throws IOException {
        Check.due("rule 4: signs of the text", Files.readString(FILE).chars().allMatch(c -> c == '\n' || c >= 32 && c < 127), true);
        Source source = new Source(FILE);
        for (String used : source.library.keySet()) {
            Check.due("rule 4, line " + source.library.get(used) + ": " + used, LIBRARY.matcher(used).matches(), true);
        }
        for (String method : source.recursive()) {
            Check.due("rule 8: " + method + " carries its depth", method.matches("WaistSand\\.LawReader\\.read\\w+\\(WaistSand\\.Tape,int\\)"), true);
        }
        List<String> chain = source.longestChain();
        Check.due("rule 11: calls one within another of " + chain, chain.size() <= 8, true);
        Rules rules = new Rules(source);
        source.look(rules);
        Check.due("rule 11: classes", rules.classes <= 12, true);
        Check.due("rule 1: methods of the face", rules.face.size(), 44);
        for (String name : rules.hidden) {
            Check.due("rule 1: private method with a public one's name: " + name, rules.face.contains(name), false);
        }
        Check.ends("LanguageTest");
    }

    private static final class Rules extends TreePathScanner<Void, Void> {
        private final Source source;
        private final Set<String> face = new TreeSet<>();
        private final Set<String> hidden = new TreeSet<>();
        private final Set<String> thrown = new TreeSet<>();
        private MethodTree within;
        private int classes;

        private Rules(Source source) {
            this.source = source;
        }

        private void refuse(int rule, Tree tree) {
            keeps(rule, tree, false);
        }

        private void keeps(int rule, Tree tree, boolean kept) {
            String text = tree.toString().strip().split("\n")[0];
            Check.due("rule " + rule + " kept, line " + source.line(tree) + ": " + text, kept, true);
        }

        private Element element() {
            return source.element(getCurrentPath());
        }

        private String type(Tree tree) {
            return source.type(new TreePath(getCurrentPath(), tree));
        }

        // ---- what is not there at all

        @Override
        public Void visitLambdaExpression(LambdaExpressionTree tree, Void nothing) {
            refuse(2, tree);
            return null;
        }

        @Override
        public Void visitMemberReference(MemberReferenceTree tree, Void nothing) {
            refuse(2, tree);
            return null;
        }

        @Override
        public Void visitTry(TryTree tree, Void nothing) {
            refuse(6, tree);
            return null;
        }

        @Override
        public Void visitSynchronized(SynchronizedTree tree, Void nothing) {
            refuse(6, tree);
            return null;
        }

        @Override
        public Void visitAssert(AssertTree tree, Void nothing) {
            refuse(6, tree);
            return null;
        }

        @Override
        public Void visitBlock(BlockTree tree, Void nothing) {
            if (tree.isStatic()) {
                refuse(5, tree);
            }
            return super.visitBlock(tree, nothing);
        }

        // ---- classes, fields, methods

        @Override
        public Void visitClass(ClassTree tree, Void nothing) {
            classes++;
            int fields = 0;
            for (Tree member : tree.getMembers()) {
                boolean isField = member instanceof VariableTree;
                fields += isField && !((VariableTree) member).getModifiers().getFlags().contains(Modifier.STATIC) ? 1 : 0;
            }
            Set<Modifier> how = tree.getModifiers().getFlags();
            boolean outer = tree.getSimpleName().contentEquals("WaistSand");
            keeps(2, tree, outer || how.contains(Modifier.PRIVATE) && how.contains(Modifier.STATIC));
            keeps(2, tree, tree.getKind() == Tree.Kind.CLASS && within == null);
            keeps(11, tree, fields <= 20);
            return super.visitClass(tree, nothing);
        }

        @Override
        public Void visitVariable(VariableTree tree, Void nothing) {
            keeps(3, tree, TYPES.matcher(source.type(getCurrentPath())).matches());
            Element variable = element();
            if (variable.getKind() == ElementKind.FIELD && variable.getModifiers().contains(Modifier.STATIC)) {
                boolean constant = ((VariableElement) variable).getConstantValue() != null;
                keeps(5, tree, constant && variable.getModifiers().contains(Modifier.FINAL));
            }
            return super.visitVariable(tree, nothing);
        }

        @Override
        public Void visitMethod(MethodTree tree, Void nothing) {
            MethodTree before = within;
            within = tree;
            thrown.clear();
            boolean maker = tree.getReturnType() == null;
            if (!maker) {
                keeps(3, tree, TYPES.matcher(type(tree.getReturnType())).matches());
                (tree.getModifiers().getFlags().contains(Modifier.PUBLIC) ? face : hidden).add(tree.getName().toString());
            }
            keeps(11, tree, tree.getParameters().size() <= 7);
            keeps(11, tree, source.linesOf(tree) <= 60);
            super.visitMethod(tree, nothing);
            Set<String> told = new TreeSet<>();
            tree.getThrows().forEach(e -> told.add(e.toString()));
            Check.due("rule 6: what " + tree.getName() + " throws", thrown, told);
            within = before;
            return null;
        }

        @Override
        public Void visitThrow(ThrowTree tree, Void nothing) {
            boolean isNew = tree.getExpression() instanceof NewClassTree;
            keeps(6, tree, isNew && within.getReturnType() != null);
            if (isNew) {
                NewClassTree made = (NewClassTree) tree.getExpression();
                keeps(6, tree, EXCEPTIONS.contains(made.getIdentifier().toString()));
                made.getArguments().forEach(text -> keeps(6, tree, text.getKind() == Tree.Kind.STRING_LITERAL));
                thrown.add(made.getIdentifier().toString());
            }
            return super.visitThrow(tree, nothing);
        }

        // ---- loops and signs

        /** A loop's end can be seen: a relation stands in what it goes on by. */
        private void ends(Tree loop, ExpressionTree condition) {
            boolean[] found = new boolean[1];
            TreePathScanner<Void, Void> relations = new TreePathScanner<>() {
                @Override
                public Void visitBinary(BinaryTree tree, Void nothing) {
                    found[0] |= RELATIONS.contains(tree.getKind());
                    return super.visitBinary(tree, nothing);
                }
            };
            if (condition != null) {
                relations.scan(new TreePath(getCurrentPath(), condition), null);
            }
            keeps(9, loop, found[0]);
        }

        @Override
        public Void visitForLoop(ForLoopTree tree, Void nothing) {
            ends(tree, tree.getCondition());
            return super.visitForLoop(tree, nothing);
        }

        @Override
        public Void visitWhileLoop(WhileLoopTree tree, Void nothing) {
            ends(tree, tree.getCondition());
            return super.visitWhileLoop(tree, nothing);
        }

        @Override
        public Void visitDoWhileLoop(DoWhileLoopTree tree, Void nothing) {
            refuse(9, tree);
            return super.visitDoWhileLoop(tree, nothing);
        }

        @Override
        public Void visitEnhancedForLoop(EnhancedForLoopTree tree, Void nothing) {
            refuse(9, tree);
            return super.visitEnhancedForLoop(tree, nothing);
        }

        @Override
        public Void visitTypeCast(TypeCastTree tree, Void nothing) {
            keeps(6, tree, tree.getType().getKind() == Tree.Kind.PRIMITIVE_TYPE);
            return super.visitTypeCast(tree, nothing);
        }

        @Override
        public Void visitBinary(BinaryTree tree, Void nothing) {
            boolean ofTexts = type(tree.getLeftOperand()).equals("java.lang.String") || type(tree.getRightOperand()).equals("java.lang.String");
            keeps(tree.getKind() == Tree.Kind.PLUS ? 10 : 6, tree, !ofTexts);
            if (tree.getKind() == Tree.Kind.DIVIDE || tree.getKind() == Tree.Kind.REMAINDER) {
                keeps(7, tree, isTested(tree.getRightOperand()));
            }
            return super.visitBinary(tree, nothing);
        }

        @Override
        public Void visitCompoundAssignment(CompoundAssignmentTree tree, Void nothing) {
            keeps(7, tree, tree.getKind() != Tree.Kind.DIVIDE_ASSIGNMENT && tree.getKind() != Tree.Kind.REMAINDER_ASSIGNMENT);
            keeps(10, tree, !type(tree.getVariable()).equals("java.lang.String"));
            return super.visitCompoundAssignment(tree, nothing);
        }

        /** A number that is not 0, a constant that is not, or a name that stands ahead of a ? or in an if of its method. */
        private boolean isTested(ExpressionTree divisor) {
            if (divisor instanceof LiteralTree) {
                return !String.valueOf(((LiteralTree) divisor).getValue()).equals("0");
            }
            Element element = source.element(new TreePath(getCurrentPath(), divisor));
            if (element instanceof VariableElement && ((VariableElement) element).getConstantValue() != null) {
                return !((VariableElement) element).getConstantValue().equals(0);
            }
            for (TreePath path = getCurrentPath(); path != null && path.getLeaf() != within; path = path.getParentPath()) {
                Tree leaf = path.getLeaf();
                String test = leaf instanceof ConditionalExpressionTree ? ((ConditionalExpressionTree) leaf).getCondition().toString()
                    : leaf instanceof IfTree ? ((IfTree) leaf).getCondition().toString() : "";
                if (test.matches("\\(?" + Pattern.quote(divisor.toString()) + " (== 0|< 1)\\)?")) {
                    return true;
                }
            }
            return false;
        }

        @Override
        public Void visitArrayAccess(ArrayAccessTree tree, Void nothing) {
            keeps(3, tree, !type(tree).endsWith("[]"));
            return super.visitArrayAccess(tree, nothing);
        }
    }
}
