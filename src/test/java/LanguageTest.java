import com.sun.source.tree.AssertTree;
import com.sun.source.tree.BinaryTree;
import com.sun.source.tree.ClassTree;
import com.sun.source.tree.CompilationUnitTree;
import com.sun.source.tree.CompoundAssignmentTree;
import com.sun.source.tree.DoWhileLoopTree;
import com.sun.source.tree.ExpressionTree;
import com.sun.source.tree.ForLoopTree;
import com.sun.source.tree.LambdaExpressionTree;
import com.sun.source.tree.LiteralTree;
import com.sun.source.tree.MemberReferenceTree;
import com.sun.source.tree.MethodInvocationTree;
import com.sun.source.tree.MethodTree;
import com.sun.source.tree.NewArrayTree;
import com.sun.source.tree.NewClassTree;
import com.sun.source.tree.SynchronizedTree;
import com.sun.source.tree.ThrowTree;
import com.sun.source.tree.Tree;
import com.sun.source.tree.TryTree;
import com.sun.source.tree.TypeCastTree;
import com.sun.source.tree.VariableTree;
import com.sun.source.tree.WhileLoopTree;
import com.sun.source.util.JavacTask;
import com.sun.source.util.TreePath;
import com.sun.source.util.TreePathScanner;
import com.sun.source.util.Trees;
import java.io.File;
import java.util.HashMap;
import java.util.List;
import java.util.Map;
import java.util.Set;
import java.util.TreeSet;
import javax.lang.model.element.Element;
import javax.lang.model.element.ElementKind;
import javax.lang.model.element.Modifier;
import javax.tools.JavaCompiler;
import javax.tools.StandardJavaFileManager;
import javax.tools.ToolProvider;

/**
 * Those rules of LANGUAGE.md that can be read off the program's tree, as javac makes it. Where
 * the program keeps to less than a rule allows (no while, nothing made behind the constructor), so
 * does this.
 */
public final class LanguageTest extends TreePathScanner<Void, Void> {
    private static final Set<String> LIBRARY = Set.of("java.lang.Math.min(int,int)", "java.lang.Integer.bitCount(int)",
        "java.lang.System.arraycopy(java.lang.Object,int,java.lang.Object,int,int)", "java.lang.Object.Object()");
    private static final Set<String> PLAIN = Set.of("int", "long", "boolean", "int[]", "long[]", "boolean[]", "int[][]",
        "long[][]");
    private static final Set<String> CONSTANT = Set.of("int", "long", "boolean", "char", "long[]", "int[]");

    private static final int MOST_CLASSES = 12, MOST_FIELDS = 20, MOST_LINES = 60, MOST_PARAMETERS = 7, DEEPEST = 8;

    private static int wrong = 0;
    private final Trees trees;
    private final CompilationUnitTree unit;
    private final Set<String> ownClasses = new TreeSet<>();
    private final Map<String, Set<String>> callsOf = new HashMap<>();
    private String method = "";
    private MethodTree body;

    private LanguageTest(Trees trees, CompilationUnitTree unit) {
        this.trees = trees;
        this.unit = unit;
    }

    public static void main(String[] args) throws Exception {
        JavaCompiler compiler = ToolProvider.getSystemJavaCompiler();
        try (StandardJavaFileManager files = compiler.getStandardFileManager(null, null, null)) {
            JavacTask task = (JavacTask) compiler.getTask(null, files, null, List.of("--release", "17", "-proc:none"),
                null, files.getJavaFileObjects(new File("src/main/java/DrawnTold.java")));
            CompilationUnitTree unit = task.parse().iterator().next();
            task.analyze();
            LanguageTest test = new LanguageTest(Trees.instance(task), unit);
            test.scan(unit, null);
            test.depths();
        }
        System.out.println(wrong == 0 ? "the language is as told" : wrong + " faults");
        if (wrong != 0) {
            System.exit(1);
        }
    }

    private void rule(int number, boolean kept, String what, Tree where) {
        if (!kept) {
            wrong++;
            System.out.println("rule " + number + ", line " + lineOf(where, false) + ": " + what);
        }
    }

    private long lineOf(Tree tree, boolean end) {
        long at = end ? trees.getSourcePositions().getEndPosition(unit, tree)
            : trees.getSourcePositions().getStartPosition(unit, tree);
        return unit.getLineMap().getLineNumber(at);
    }

    private Element here() {
        return trees.getElement(getCurrentPath());
    }

    // ---- classes, fields, methods

    @Override
    public Void visitClass(ClassTree tree, Void nothing) {
        Element element = here();
        boolean isFace = element.getEnclosingElement().getKind() == ElementKind.PACKAGE;
        ownClasses.add(element.toString());
        rule(2, element.getKind() == ElementKind.CLASS, "a class it is not", tree);
        rule(2, isFace || element.getModifiers().contains(Modifier.STATIC), "an inner class that is not static", tree);
        rule(2, isFace || element.getEnclosingElement().getKind() == ElementKind.CLASS, "a local class", tree);
        rule(1, isFace || !element.getModifiers().contains(Modifier.PUBLIC), "a public class inside", tree);
        rule(11, ownClasses.size() <= MOST_CLASSES, "too many classes", tree);
        long fields = element.getEnclosedElements().stream()
            .filter(e -> e.getKind() == ElementKind.FIELD && !e.getModifiers().contains(Modifier.STATIC)).count();
        rule(11, fields <= MOST_FIELDS, fields + " fields", tree);
        for (Tree member : tree.getMembers()) {
            rule(5, member.getKind() != Tree.Kind.BLOCK, "an initialiser block", member);
        }
        return super.visitClass(tree, nothing);
    }

    @Override
    public Void visitMethod(MethodTree tree, Void nothing) {
        String outer = method;
        MethodTree outerBody = body;
        method = nameOf(here());
        body = tree;
        callsOf.put(method, new TreeSet<>());
        rule(11, tree.getParameters().size() <= MOST_PARAMETERS, method + " has too many parameters", tree);
        // What javac adds (a constructor that is not written) has no end.
        long end = trees.getSourcePositions().getEndPosition(unit, tree);
        rule(11, end < 0 || lineOf(tree, true) - lineOf(tree, false) < MOST_LINES, method + " is long", tree);
        super.visitMethod(tree, nothing);
        method = outer;
        body = outerBody;
        return null;
    }

    @Override
    public Void visitVariable(VariableTree tree, Void nothing) {
        Element element = here();
        String type = element.asType().toString();
        String kind = type.replace("[]", "");
        boolean ownKind = kind.startsWith("DrawnTold.") && !type.contains("[][]");
        rule(3, PLAIN.contains(type) || ownKind, "a " + type, tree);
        if (element.getKind() == ElementKind.FIELD && element.getModifiers().contains(Modifier.STATIC)) {
            rule(5, element.getModifiers().contains(Modifier.FINAL), "static and may change", tree);
            rule(5, CONSTANT.contains(type), "a static " + type, tree);
            boolean writtenOut = tree.getInitializer() instanceof NewArrayTree array && array.getInitializers() != null;
            rule(5, !type.endsWith("[]") || writtenOut, "an array that is not written out", tree);
        }
        return super.visitVariable(tree, nothing);
    }

    // ---- calls

    private static String nameOf(Element called) {
        return called.getEnclosingElement() + "." + called;
    }

    private void call(Element called, Tree where) {
        String owner = called.getEnclosingElement().toString();
        boolean own = owner.equals("DrawnTold") || owner.startsWith("DrawnTold.");
        rule(4, own || LIBRARY.contains(nameOf(called)), "calls " + nameOf(called), where);
        if (callsOf.containsKey(method)) {
            callsOf.get(method).add(nameOf(called));
        }
    }

    @Override
    public Void visitMethodInvocation(MethodInvocationTree tree, Void nothing) {
        call(trees.getElement(new TreePath(getCurrentPath(), tree.getMethodSelect())), tree);
        return super.visitMethodInvocation(tree, nothing);
    }

    @Override
    public Void visitNewClass(NewClassTree tree, Void nothing) {
        rule(2, tree.getClassBody() == null, "an anonymous class", tree);
        rule(12, isMaking(), method + " makes an object", tree);
        call(here(), tree);
        return super.visitNewClass(tree, nothing);
    }

    @Override
    public Void visitNewArray(NewArrayTree tree, Void nothing) {
        rule(12, isMaking(), method + " makes an array", tree);
        return super.visitNewArray(tree, nothing);
    }

    /** In a constructor or where a field is written: 512 calls then make nothing at all. */
    private boolean isMaking() {
        return body == null || body.getReturnType() == null;
    }

    /** How deep calls stand in one another at most; a way round is a fault, as the program has no recursion. */
    private void depths() {
        for (String start : new TreeSet<>(callsOf.keySet())) {
            int deep = depth(start, 1);
            rule(11, deep <= DEEPEST, start + " goes " + deep + " deep", unit);
        }
    }

    private int depth(String start, int level) {
        int deepest = level;
        if (level <= DEEPEST + 1) {
            for (String called : callsOf.getOrDefault(start, Set.of())) {
                deepest = Math.max(deepest, depth(called, level + 1));
            }
        }
        return deepest;
    }

    // ---- what is ruled out, loops, divisors

    @Override
    public Void visitForLoop(ForLoopTree tree, Void nothing) {
        rule(9, tree.getCondition() != null && tree.getUpdate().size() == 1, "a loop whose end can't be seen", tree);
        return super.visitForLoop(tree, nothing);
    }

    @Override
    public Void visitBinary(BinaryTree tree, Void nothing) {
        if (tree.getKind() == Tree.Kind.DIVIDE || tree.getKind() == Tree.Kind.REMAINDER) {
            divisor(tree.getRightOperand(), tree);
        }
        return super.visitBinary(tree, nothing);
    }

    @Override
    public Void visitCompoundAssignment(CompoundAssignmentTree tree, Void nothing) {
        if (tree.getKind() == Tree.Kind.DIVIDE_ASSIGNMENT || tree.getKind() == Tree.Kind.REMAINDER_ASSIGNMENT) {
            divisor(tree.getExpression(), tree);
        }
        return super.visitCompoundAssignment(tree, nothing);
    }

    /** Written out and not 0, or compared in the same method. */
    private void divisor(ExpressionTree divisor, Tree where) {
        boolean written = divisor instanceof LiteralTree && !divisor.toString().matches("0L?");
        String text = body == null ? "" : body.toString();
        boolean compared = text.matches("(?s).*\\b" + divisor + " (<|>) [0-9].*");
        rule(7, written || compared, "a divisor that is not looked at", where);
    }

    private Void ruledOut(int number, Tree tree) {
        rule(number, false, "has a " + tree.getKind(), tree);
        return null;
    }

    @Override
    public Void visitThrow(ThrowTree tree, Void nothing) {
        return ruledOut(6, tree);
    }

    @Override
    public Void visitTry(TryTree tree, Void nothing) {
        return ruledOut(6, tree);
    }

    @Override
    public Void visitSynchronized(SynchronizedTree tree, Void nothing) {
        return ruledOut(6, tree);
    }

    @Override
    public Void visitAssert(AssertTree tree, Void nothing) {
        return ruledOut(6, tree);
    }

    @Override
    public Void visitLambdaExpression(LambdaExpressionTree tree, Void nothing) {
        return ruledOut(2, tree);
    }

    @Override
    public Void visitMemberReference(MemberReferenceTree tree, Void nothing) {
        return ruledOut(2, tree);
    }

    @Override
    public Void visitWhileLoop(WhileLoopTree tree, Void nothing) {
        return ruledOut(9, tree);
    }

    @Override
    public Void visitDoWhileLoop(DoWhileLoopTree tree, Void nothing) {
        return ruledOut(9, tree);
    }

    @Override
    public Void visitTypeCast(TypeCastTree tree, Void nothing) {
        rule(6, tree.getType().toString().equals("int"), "a cast that could fail", tree);
        return super.visitTypeCast(tree, nothing);
    }
}
