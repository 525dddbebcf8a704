import com.sun.source.tree.AnnotationTree;
import com.sun.source.tree.AssertTree;
import com.sun.source.tree.AssignmentTree;
import com.sun.source.tree.BinaryTree;
import com.sun.source.tree.ClassTree;
import com.sun.source.tree.CompilationUnitTree;
import com.sun.source.tree.CompoundAssignmentTree;
import com.sun.source.tree.DoWhileLoopTree;
import com.sun.source.tree.ExpressionTree;
import com.sun.source.tree.ForLoopTree;
import com.sun.source.tree.IdentifierTree;
import com.sun.source.tree.LambdaExpressionTree;
import com.sun.source.tree.LiteralTree;
import com.sun.source.tree.MemberReferenceTree;
import com.sun.source.tree.MethodInvocationTree;
import com.sun.source.tree.MethodTree;
import com.sun.source.tree.NewClassTree;
import com.sun.source.tree.SynchronizedTree;
import com.sun.source.tree.ThrowTree;
import com.sun.source.tree.Tree;
import com.sun.source.tree.TryTree;
import com.sun.source.tree.TypeCastTree;
import com.sun.source.tree.VariableTree;
import com.sun.source.tree.WhileLoopTree;
import com.sun.source.util.JavacTask;
import com.sun.source.util.TreePath;
import com.sun.source.util.TreePathScanner;
import com.sun.source.util.Trees;
import java.io.IOException;
import java.nio.file.Path;
import java.util.ArrayList;
import java.util.List;
import java.util.Map;
import java.util.Set;
import java.util.TreeMap;
import java.util.TreeSet;
import javax.lang.model.element.Element;
import javax.lang.model.element.ElementKind;
import javax.lang.model.element.ExecutableElement;
import javax.lang.model.element.Modifier;
import javax.lang.model.element.TypeElement;
import javax.lang.model.element.VariableElement;
import javax.lang.model.type.TypeMirror;
import javax.tools.JavaCompiler;
import javax.tools.StandardJavaFileManager;
import javax.tools.ToolProvider;

/** The rules of LANGUAGE.md by the compiler's own reading of the source: what is called, made, thrown, and how deep. */
public final class RulesTest {
    private static final int DEEPEST = 8;
    private static final int LONGEST = 60;

    private static final Set<String> LIBRARY = Set.of(
        "String.length", "String.charAt", "String.isEmpty", "String.equals", "String.indexOf", "String.substring", "String.toCharArray",
        "Math.max", "Math.min", "Math.abs", "Math.floorDiv", "Math.floorMod", "System.arraycopy",
        "Arrays.copyOf", "Arrays.copyOfRange", "Arrays.fill", "Object.<init>", "NoSuchElementException.<init>", "IllegalArgumentException.<init>");

    private static final Set<String> THROWN = Set.of("NoSuchElementException", "IllegalArgumentException");

    private static final Set<String> PLAIN_TYPES = Set.of("int", "long", "short", "byte", "char", "boolean", "void", "java.lang.String");

    private final Check check = new Check();
    private final Map<String, Set<String>> calls = new TreeMap<>();
    private final Set<String> faceCalls = new TreeSet<>();
    private CompilationUnitTree unit;
    private Trees trees;

    public static void main(String[] args) throws IOException {
        RulesTest test = new RulesTest();
        test.read(Path.of("src/main/java/MudWalls.java"));
        test.depths();
        test.check.end();
    }

    private void holds(String what, boolean so) {
        check.same(what, 1, so ? 1 : 0);
    }

    private void read(Path file) throws IOException {
        JavaCompiler compiler = ToolProvider.getSystemJavaCompiler();
        try (StandardJavaFileManager files = compiler.getStandardFileManager(null, null, null)) {
            JavacTask task = (JavacTask) compiler.getTask(null, files, null, List.of("-proc:none"), null, files.getJavaFileObjects(file));
            trees = Trees.instance(task);
            unit = task.parse().iterator().next();
            task.analyze();
            new Rules().scan(unit, null);
        }
        holds("methods were found", calls.size() > 100);
        check.same("calls of the face", 31, faceCalls.size());
    }

    /** Rule 11, most strictly: the call of the face is the first, a call of the library counts too; rule 8: what calls itself counts once. */
    private void depths() {
        for (String call : faceCalls) {
            List<String> chain = longest(call, new ArrayList<>());
            holds("at most eight deep: " + chain, chain.size() <= DEEPEST);
        }
    }

    private List<String> longest(String from, List<String> open) {
        List<String> best = new ArrayList<>();
        open.add(from);
        for (String next : calls.getOrDefault(from, Set.of())) {
            if (!open.contains(next)) {
                List<String> chain = longest(next, open);
                best = chain.size() > best.size() ? chain : best;
            }
        }
        open.remove(open.size() - 1);
        List<String> whole = new ArrayList<>(List.of(from));
        whole.addAll(best);
        return whole;
    }

    private final class Rules extends TreePathScanner<Void, Void> {
        private String method = "";
        private boolean inConstructor;

        private String place(Tree tree) {
            return " (line " + unit.getLineMap().getLineNumber(trees.getSourcePositions().getStartPosition(unit, tree)) + ")";
        }

        private void never(String what, Tree tree) {
            holds("no " + what + place(tree), false);
        }

        private boolean isOwn(TypeElement type) {
            return type.getQualifiedName().toString().startsWith("MudWalls");
        }

        private TypeMirror typeOf(Tree tree) {
            return trees.getTypeMirror(new TreePath(getCurrentPath(), tree));
        }

        private boolean isText(Tree tree) {
            TypeMirror type = typeOf(tree);
            return type != null && type.toString().equals("java.lang.String");
        }

        @Override
        public Void visitClass(ClassTree tree, Void none) {
            Element type = trees.getElement(getCurrentPath());
            holds("a nested class is static, and no other is" + place(tree),
                type.getEnclosingElement().getKind() == ElementKind.PACKAGE || type.getModifiers().contains(Modifier.STATIC));
            holds("no class within a method" + place(tree), method.isEmpty());
            return super.visitClass(tree, none);
        }

        @Override
        public Void visitMethod(MethodTree tree, Void none) {
            ExecutableElement element = (ExecutableElement) trees.getElement(getCurrentPath());
            TypeElement owner = (TypeElement) element.getEnclosingElement();
            String outside = method;
            method = owner.getSimpleName() + "." + element.getSimpleName();
            inConstructor = element.getKind() == ElementKind.CONSTRUCTOR;
            calls.putIfAbsent(method, new TreeSet<>());
            if (element.getModifiers().contains(Modifier.PUBLIC)) {
                faceCalls.add(method);
            }
            long first = unit.getLineMap().getLineNumber(trees.getSourcePositions().getStartPosition(unit, tree));
            long last = unit.getLineMap().getLineNumber(Math.max(0, trees.getSourcePositions().getEndPosition(unit, tree)));
            holds("some sixty lines: " + method, last - first < LONGEST);
            holds("at most seven parameters: " + method, element.getParameters().size() <= 7);
            super.visitMethod(tree, none);
            method = outside;
            return null;
        }

        @Override
        public Void visitMethodInvocation(MethodInvocationTree tree, Void none) {
            calls(trees.getElement(getCurrentPath()), tree);
            return super.visitMethodInvocation(tree, none);
        }

        @Override
        public Void visitNewClass(NewClassTree tree, Void none) {
            if (tree.getClassBody() != null) {
                never("class without a name", tree);
            }
            calls(trees.getElement(getCurrentPath()), tree);
            return super.visitNewClass(tree, none);
        }

        private void calls(Element called, Tree tree) {
            TypeElement owner = (TypeElement) called.getEnclosingElement();
            String name = owner.getSimpleName() + "." + called.getSimpleName();
            holds("rule 4 lists " + name + place(tree), isOwn(owner) || LIBRARY.contains(name));
            calls.computeIfAbsent(method, key -> new TreeSet<>()).add(name);
        }

        @Override
        public Void visitVariable(VariableTree tree, Void none) {
            VariableElement element = (VariableElement) trees.getElement(getCurrentPath());
            String type = element.asType().toString();
            String single = type.endsWith("[]") ? type.substring(0, type.length() - 2) : type;
            holds("rule 3 lists " + type + place(tree), PLAIN_TYPES.contains(single) || single.startsWith("MudWalls."));
            if (element.getKind() == ElementKind.FIELD && element.getModifiers().contains(Modifier.STATIC)) {
                holds("a static field is a constant" + place(tree), element.getConstantValue() != null);
            }
            return super.visitVariable(tree, none);
        }

        @Override
        public Void visitThrow(ThrowTree tree, Void none) {
            boolean written = tree.getExpression() instanceof NewClassTree;
            holds("what is thrown is made there" + place(tree), written);
            holds("no throw in a constructor" + place(tree), !inConstructor);
            if (written) {
                NewClassTree made = (NewClassTree) tree.getExpression();
                holds("rule 6 and the document name it" + place(tree), THROWN.contains(made.getIdentifier().toString()));
                for (ExpressionTree argument : made.getArguments()) {
                    holds("a written text" + place(tree), argument instanceof LiteralTree);
                }
            }
            return super.visitThrow(tree, none);
        }

        @Override
        public Void visitBinary(BinaryTree tree, Void none) {
            boolean texts = isText(tree.getLeftOperand()) || isText(tree.getRightOperand());
            holds("no texts joined or laid side by side by a sign" + place(tree), !texts);
            boolean divides = tree.getKind() == Tree.Kind.DIVIDE || tree.getKind() == Tree.Kind.REMAINDER;
            holds("a divisor is a constant, or looked at in its method" + place(tree), !divides || safeDivisor(tree.getRightOperand()));
            return super.visitBinary(tree, none);
        }

        private boolean safeDivisor(ExpressionTree divisor) {
            if (divisor instanceof LiteralTree literal) {
                return !literal.getValue().equals(0);
            }
            Element element = trees.getElement(new TreePath(getCurrentPath(), divisor));
            boolean constant = element instanceof VariableElement variable && variable.getConstantValue() != null;
            return constant || method.equals("Weather.flow") && divisor instanceof IdentifierTree;
        }

        @Override
        public Void visitCompoundAssignment(CompoundAssignmentTree tree, Void none) {
            holds("no texts joined" + place(tree), !isText(tree.getVariable()));
            boolean divides = tree.getKind() == Tree.Kind.DIVIDE_ASSIGNMENT || tree.getKind() == Tree.Kind.REMAINDER_ASSIGNMENT;
            holds("no division by what may be 0" + place(tree), !divides);
            return super.visitCompoundAssignment(tree, none);
        }

        @Override
        public Void visitTypeCast(TypeCastTree tree, Void none) {
            holds("only numbers are cast" + place(tree), typeOf(tree).getKind().isPrimitive());
            return super.visitTypeCast(tree, none);
        }

        @Override
        public Void visitForLoop(ForLoopTree tree, Void none) {
            holds("a loop has an end" + place(tree), tree.getCondition() != null && !(tree.getCondition() instanceof LiteralTree));
            return super.visitForLoop(tree, none);
        }

        @Override
        public Void visitWhileLoop(WhileLoopTree tree, Void none) {
            String condition = tree.getCondition().toString();
            holds("a loop has a bound: " + condition + place(tree), condition.contains("<") || condition.contains(">"));
            return super.visitWhileLoop(tree, none);
        }

        @Override
        public Void visitDoWhileLoop(DoWhileLoopTree tree, Void none) {
            never("loop with its end behind it", tree);
            return null;
        }

        @Override
        public Void visitAssignment(AssignmentTree tree, Void none) {
            holds("nothing becomes null" + place(tree), tree.getExpression().getKind() != Tree.Kind.NULL_LITERAL);
            return super.visitAssignment(tree, none);
        }

        @Override
        public Void visitLiteral(LiteralTree tree, Void none) {
            holds("no null is written" + place(tree), tree.getKind() != Tree.Kind.NULL_LITERAL);
            return super.visitLiteral(tree, none);
        }

        @Override
        public Void visitTry(TryTree tree, Void none) {
            never("try", tree);
            return null;
        }

        @Override
        public Void visitLambdaExpression(LambdaExpressionTree tree, Void none) {
            never("lambda", tree);
            return null;
        }

        @Override
        public Void visitMemberReference(MemberReferenceTree tree, Void none) {
            never("method reference", tree);
            return null;
        }

        @Override
        public Void visitSynchronized(SynchronizedTree tree, Void none) {
            never("synchronized", tree);
            return null;
        }

        @Override
        public Void visitAssert(AssertTree tree, Void none) {
            never("assert", tree);
            return null;
        }

        @Override
        public Void visitAnnotation(AnnotationTree tree, Void none) {
            never("annotation", tree);
            return null;
        }
    }
}
