import com.sun.source.tree.AssertTree;
import com.sun.source.tree.BinaryTree;
import com.sun.source.tree.ClassTree;
import com.sun.source.tree.CompilationUnitTree;
import com.sun.source.tree.DoWhileLoopTree;
import com.sun.source.tree.ExpressionTree;
import com.sun.source.tree.LambdaExpressionTree;
import com.sun.source.tree.LiteralTree;
import com.sun.source.tree.MemberReferenceTree;
import com.sun.source.tree.MethodInvocationTree;
import com.sun.source.tree.MethodTree;
import com.sun.source.tree.NewArrayTree;
import com.sun.source.tree.NewClassTree;
import com.sun.source.tree.SynchronizedTree;
import com.sun.source.tree.ThrowTree;
import com.sun.source.tree.Tree;
import com.sun.source.tree.TryTree;
import com.sun.source.tree.TypeCastTree;
import com.sun.source.tree.VariableTree;
import com.sun.source.tree.WhileLoopTree;
import com.sun.source.util.JavacTask;
import com.sun.source.util.TreePathScanner;
import com.sun.source.util.Trees;
import java.nio.file.Path;
import java.util.HashMap;
import java.util.HashSet;
import java.util.LinkedHashMap;
import java.util.LinkedHashSet;
import java.util.List;
import java.util.Map;
import java.util.Set;
import javax.lang.model.element.Element;
import javax.lang.model.element.ElementKind;
import javax.lang.model.element.Modifier;
import javax.lang.model.type.TypeKind;
import javax.tools.JavaCompiler;
import javax.tools.StandardJavaFileManager;
import javax.tools.ToolProvider;

/**
 * What a machine can see of LANGUAGE.md in the class's text. Where the class can do with less than
 * a rule leaves (it makes no object in a call, and catches nothing), less is asked for.
 */
public final class RulesTest extends TreePathScanner<Void, Void> {
    private static final Set<String> THROWN = Set.of("IllegalStateException",
            "IllegalArgumentException", "IndexOutOfBoundsException",
            "UnsupportedOperationException");
    private static final Set<String> LIBRARY = Set.of("Math.max", "Math.min");

    private final Trees trees;
    private final CompilationUnitTree file;
    private final Map<Element, Set<Element>> callsOf = new LinkedHashMap<>();
    private final Map<String, Boolean> publicNames = new HashMap<>();
    private MethodTree method;
    private int classes;
    private int divisions;
    private int throwing;

    private RulesTest(Trees trees, CompilationUnitTree file) {
        this.trees = trees;
        this.file = file;
    }

    public static void main(String[] args) throws Exception {
        JavaCompiler compiler = ToolProvider.getSystemJavaCompiler();
        try (StandardJavaFileManager files = compiler.getStandardFileManager(null, null, null)) {
            JavacTask task = (JavacTask) compiler.getTask(null, files, null, List.of("-proc:none"),
                    null, files.getJavaFileObjects(Path.of("src/main/java/BlockSorter.java")));
            CompilationUnitTree file = task.parse().iterator().next();
            task.analyze();
            RulesTest rules = new RulesTest(Trees.instance(task), file);
            rules.scan(file, null);
            rules.end();
        }
        Due.end();
    }

    private void holds(String rule, Tree where, boolean is) {
        Due.is("rule " + rule + ", line " + lineOf(where), is ? 1 : 0, 1);
    }

    private long lineOf(Tree tree) {
        return file.getLineMap().getLineNumber(
                trees.getSourcePositions().getStartPosition(file, tree));
    }

    private long lastLineOf(Tree tree) {
        return file.getLineMap().getLineNumber(
                trees.getSourcePositions().getEndPosition(file, tree));
    }

    private void end() {
        holds("1: no package", file, file.getPackage() == null);
        holds("4: no imports", file, file.getImports().isEmpty());
        holds("11: at most twelve classes", file, classes > 1 && classes <= 12);
        // these would be 0 if the tree were not walked
        holds("7: divisions were seen", file, divisions > 0);
        holds("6: throws were seen", file, throwing > 0);
        for (Element e : callsOf.keySet()) {
            int depth = depthOf(e, new HashSet<>());
            Due.is("rule 11: calls at most eight deep from " + e, depth <= 8 ? 1 : 0, 1);
        }
    }

    /** How many calls stand open at once; one that comes back to itself counts as too deep. */
    private int depthOf(Element e, Set<Element> open) {
        if (!open.add(e)) {
            return 1000;
        }
        int deepest = 0;
        for (Element called : callsOf.getOrDefault(e, Set.of())) {
            deepest = Math.max(deepest, depthOf(called, open));
        }
        open.remove(e);
        return deepest + 1;
    }

    @Override
    public Void visitClass(ClassTree tree, Void none) {
        classes++;
        Set<Modifier> flags = tree.getModifiers().getFlags();
        boolean outer = getCurrentPath().getParentPath().getLeaf() == file;
        holds("1: the class is public and final", tree, !outer
                || flags.equals(Set.of(Modifier.PUBLIC, Modifier.FINAL)));
        holds("1: classes inside are private and static", tree, outer
                || flags.contains(Modifier.PRIVATE) && flags.contains(Modifier.STATIC));
        int fields = 0;
        for (Tree member : tree.getMembers()) {
            if (member instanceof VariableTree) {
                Set<Modifier> of = ((VariableTree) member).getModifiers().getFlags();
                fields += of.contains(Modifier.STATIC) ? 0 : 1;
                holds("5: static fields are final", member,
                        !of.contains(Modifier.STATIC) || of.contains(Modifier.FINAL));
                holds("5: static fields are written out", member, !of.contains(Modifier.STATIC)
                        || isNumber(((VariableTree) member).getInitializer()));
            }
            holds("5: no block beside the methods", member, member.getKind() != Tree.Kind.BLOCK);
        }
        holds("11: at most twenty fields", tree, fields <= 20);
        return super.visitClass(tree, none);
    }

    private static boolean isNumber(ExpressionTree tree) {
        return tree instanceof LiteralTree || tree != null
                && tree.getKind() == Tree.Kind.UNARY_MINUS;
    }

    @Override
    public Void visitMethod(MethodTree tree, Void none) {
        method = tree;
        callsOf.putIfAbsent(trees.getElement(getCurrentPath()), new LinkedHashSet<>());
        holds("11: at most seven parameters", tree, tree.getParameters().size() <= 7);
        holds("11: at most sixty lines", tree, lastLineOf(tree) - lineOf(tree) < 60);
        boolean isPublic = tree.getModifiers().getFlags().contains(Modifier.PUBLIC);
        String name = tree.getName().toString();
        Boolean before = publicNames.putIfAbsent(name, isPublic);
        holds("1: no other method bears a public one's name", tree,
                name.equals("<init>") || before == null || before == isPublic);
        Void done = super.visitMethod(tree, none);
        method = null;
        return done;
    }

    @Override
    public Void visitMethodInvocation(MethodInvocationTree tree, Void none) {
        Element called = trees.getElement(getCurrentPath());
        boolean own = called.getEnclosingElement().toString().startsWith("BlockSorter");
        boolean superCall = called.getKind() == ElementKind.CONSTRUCTOR;
        holds("4: only what the library's list has: " + tree.getMethodSelect(), tree,
                own || superCall || LIBRARY.contains(tree.getMethodSelect().toString()));
        if (own) {
            callsOf.computeIfAbsent(currentMethod(), e -> new LinkedHashSet<>()).add(called);
        }
        return super.visitMethodInvocation(tree, none);
    }

    private Element currentMethod() {
        return trees.getElement(trees.getPath(file, method));
    }

    @Override
    public Void visitNewClass(NewClassTree tree, Void none) {
        boolean thrown = getCurrentPath().getParentPath().getLeaf() instanceof ThrowTree;
        holds("12: objects are made in constructors", tree, thrown || inConstructor());
        if (!thrown) {
            callsOf.computeIfAbsent(currentMethod(), e -> new LinkedHashSet<>())
                    .add(trees.getElement(getCurrentPath()));
        }
        return super.visitNewClass(tree, none);
    }

    @Override
    public Void visitNewArray(NewArrayTree tree, Void none) {
        holds("12: arrays are made in constructors", tree, inConstructor());
        holds("3: arrays are of one dimension", tree, tree.getDimensions().size() == 1);
        return super.visitNewArray(tree, none);
    }

    private boolean inConstructor() {
        return method != null && method.getName().contentEquals("<init>");
    }

    @Override
    public Void visitThrow(ThrowTree tree, Void none) {
        throwing++;
        holds("6: a throw makes what it throws", tree,
                tree.getExpression() instanceof NewClassTree);
        NewClassTree made = (NewClassTree) tree.getExpression();
        holds("6: what is thrown", tree, THROWN.contains(made.getIdentifier().toString()));
        holds("6: with a written text", tree, made.getArguments().size() == 1
                && made.getArguments().get(0).getKind() == Tree.Kind.STRING_LITERAL);
        holds("6: no throw in a constructor", tree, !inConstructor());
        return super.visitThrow(tree, none);
    }

    /** A divisor is a number written out, one that Math.max keeps above 0, or a tested name. */
    @Override
    public Void visitBinary(BinaryTree tree, Void none) {
        Tree.Kind kind = tree.getKind();
        if (kind == Tree.Kind.DIVIDE || kind == Tree.Kind.REMAINDER) {
            divisions++;
            String divisor = tree.getRightOperand().toString();
            holds("7: a divisor is looked at: " + divisor, tree,
                    isNumber(tree.getRightOperand()) && !divisor.equals("0")
                    || divisor.startsWith("Math.max(1, ")
                    || method.toString().contains(divisor + " = Math.max(1, ")
                    || method.toString().contains(divisor + " < 1"));
        }
        boolean text = trees.getTypeMirror(getCurrentPath()).getKind() == TypeKind.DECLARED;
        holds("10: texts are not joined by +", tree, !text);
        return super.visitBinary(tree, none);
    }

    @Override
    public Void visitTry(TryTree tree, Void none) {
        holds("6: nothing is caught", tree, false);
        return super.visitTry(tree, none);
    }

    @Override
    public Void visitWhileLoop(WhileLoopTree tree, Void none) {
        holds("9: every loop has a counter", tree, false);
        return super.visitWhileLoop(tree, none);
    }

    @Override
    public Void visitDoWhileLoop(DoWhileLoopTree tree, Void none) {
        holds("9: every loop has a counter", tree, false);
        return super.visitDoWhileLoop(tree, none);
    }

    @Override
    public Void visitTypeCast(TypeCastTree tree, Void none) {
        holds("7: no cast", tree, false);
        return super.visitTypeCast(tree, none);
    }

    @Override
    public Void visitLambdaExpression(LambdaExpressionTree tree, Void none) {
        holds("2: no lambda", tree, false);
        return super.visitLambdaExpression(tree, none);
    }

    @Override
    public Void visitMemberReference(MemberReferenceTree tree, Void none) {
        holds("2: no method reference", tree, false);
        return super.visitMemberReference(tree, none);
    }

    @Override
    public Void visitSynchronized(SynchronizedTree tree, Void none) {
        holds("6: no synchronized", tree, false);
        return super.visitSynchronized(tree, none);
    }

    @Override
    public Void visitAssert(AssertTree tree, Void none) {
        holds("6: no assert", tree, false);
        return super.visitAssert(tree, none);
    }
}
