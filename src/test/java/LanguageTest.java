import com.sun.source.tree.AssertTree;
import com.sun.source.tree.BinaryTree;
import com.sun.source.tree.BlockTree;
import com.sun.source.tree.CatchTree;
import com.sun.source.tree.ClassTree;
import com.sun.source.tree.CompilationUnitTree;
import com.sun.source.tree.CompoundAssignmentTree;
import com.sun.source.tree.ExpressionTree;
import com.sun.source.tree.InstanceOfTree;
import com.sun.source.tree.LambdaExpressionTree;
import com.sun.source.tree.LiteralTree;
import com.sun.source.tree.MemberReferenceTree;
import com.sun.source.tree.MethodInvocationTree;
import com.sun.source.tree.MethodTree;
import com.sun.source.tree.NewArrayTree;
import com.sun.source.tree.NewClassTree;
import com.sun.source.tree.SynchronizedTree;
import com.sun.source.tree.ThrowTree;
import com.sun.source.tree.Tree;
import com.sun.source.tree.TryTree;
import com.sun.source.tree.TypeCastTree;
import com.sun.source.tree.VariableTree;
import com.sun.source.util.JavacTask;
import com.sun.source.util.TreePath;
import com.sun.source.util.TreePathScanner;
import com.sun.source.util.Trees;
import java.io.File;
import java.io.IOException;
import java.util.List;
import java.util.Map;
import java.util.Set;
import java.util.TreeMap;
import java.util.TreeSet;
import javax.lang.model.element.Element;
import javax.lang.model.element.ElementKind;
import javax.lang.model.element.Modifier;
import javax.lang.model.type.ArrayType;
import javax.lang.model.type.TypeKind;
import javax.lang.model.type.TypeMirror;
import javax.tools.JavaCompiler;
import javax.tools.StandardJavaFileManager;
import javax.tools.ToolProvider;

/**
 * The rules of LANGUAGE.md that can be seen in the source of the class. The class needs less than the rules
 * leave, so that this test is narrower than they are where that is simpler: no try, no list, no cast but to char.
 */
public final class LanguageTest {
    private static final File SOURCE = new File("src/main/java/CookieJar.java");
    private static final int MOST_LINES = 60;
    private static final int MOST_DEPTH = 8;
    private static final int MOST_PARAMETERS = 7;

    private static final Set<String> LIBRARY = Set.of(
            "java.lang.String.length", "java.lang.String.charAt", "java.lang.Math.min", "java.lang.Math.max",
            "java.lang.Integer.compare", "java.lang.Long.compare");
    private static final Set<String> EXCEPTIONS = Set.of(
            "IllegalStateException", "IllegalArgumentException", "IndexOutOfBoundsException");

    public static void main(String[] args) throws IOException {
        JavaCompiler compiler = ToolProvider.getSystemJavaCompiler();
        try (StandardJavaFileManager files = compiler.getStandardFileManager(null, null, null)) {
            // nothing is written: the task stops behind the analysis
            JavacTask task = (JavacTask) compiler.getTask(null, files, null, List.of("-proc:none"), null,
                    files.getJavaFileObjects(SOURCE));
            Trees trees = Trees.instance(task);
            for (CompilationUnitTree unit : task.parse()) {
                task.analyze();
                check(unit, trees);
            }
        }
        Calls.end();
    }

    private static void check(CompilationUnitTree unit, Trees trees) {
        Calls.sentence("one file, src/main/java/CookieJar.java, without a package line");
        Calls.due("no package", true, unit.getPackageName() == null);
        Calls.due("no import", true, unit.getImports().isEmpty());
        Calls.due("one class at the top", 1, () -> unit.getTypeDecls().size());
        Rules rules = new Rules(unit, trees);
        rules.scan(unit, null);
        Calls.sentence("calls that are no recursion go at most eight deep");
        Calls.due("some method was seen", true, rules.calls.size() > 100);
        for (String method : rules.calls.keySet()) {
            Calls.due(method, true, depth(method, rules.calls, 0) <= MOST_DEPTH);
        }
    }

    /** How many calls stand open at once below a method, itself included; recursion comes out as too deep. */
    private static int depth(String method, Map<String, Set<String>> calls, int above) {
        if (above > MOST_DEPTH) {
            return 1;
        }
        int deepest = 0;
        for (String called : calls.getOrDefault(method, Set.of())) {
            deepest = Math.max(deepest, depth(called, calls, above + 1));
        }
        return deepest + 1;
    }

    /** Goes through the whole source; where a visit says "none", the rules forbid it or the class needs none. */
    private static final class Rules extends TreePathScanner<Void, Void> {
        /** The methods of the class and of those inside it, each with those that it calls. */
        final Map<String, Set<String>> calls = new TreeMap<>();
        private final CompilationUnitTree unit;
        private final Trees trees;
        private String method = "";
        private boolean inConstructor = false;

        Rules(CompilationUnitTree unit, Trees trees) {
            this.unit = unit;
            this.trees = trees;
        }

        private void due(String rule, Tree tree, boolean held) {
            Calls.sentence(rule);
            long line = line(trees.getSourcePositions().getStartPosition(unit, tree));
            Calls.due("line " + line, true, held);
        }

        private long line(long position) {
            return unit.getLineMap().getLineNumber(position);
        }

        private TypeMirror typeOf(Tree tree) {
            return trees.getTypeMirror(new TreePath(getCurrentPath(), tree));
        }

        private static boolean isOwn(Element type) {
            return type.toString().equals("CookieJar") || type.toString().startsWith("CookieJar.");
        }

        private static String fullName(Element method) {
            return method.getEnclosingElement() + "." + method.getSimpleName();
        }

        @Override
        public Void visitClass(ClassTree tree, Void none) {
            Calls.sentence("No other static state, no static initialiser block");
            for (Tree member : tree.getMembers()) {
                Calls.due("a block in " + tree.getSimpleName(), false, member instanceof BlockTree);
            }
            Element type = trees.getElement(getCurrentPath());
            due("static nested classes", tree, type.getModifiers().contains(Modifier.STATIC)
                    || type.toString().equals("CookieJar"));
            return super.visitClass(tree, none);
        }

        @Override
        public Void visitMethod(MethodTree tree, Void none) {
            Element element = trees.getElement(getCurrentPath());
            method = fullName(element);
            inConstructor = element.getKind() == ElementKind.CONSTRUCTOR;
            due("no overloading, so that a name tells the method in this test", tree, !calls.containsKey(method));
            calls.put(method, new TreeSet<>());
            long first = trees.getSourcePositions().getStartPosition(unit, tree);
            long last = trees.getSourcePositions().getEndPosition(unit, tree);
            due("Methods stay short (some sixty lines)", tree, last < 0 || line(last) - line(first) < MOST_LINES);
            due("A method takes at most seven parameters", tree, tree.getParameters().size() <= MOST_PARAMETERS);
            super.visitMethod(tree, none);
            method = "";
            inConstructor = false;
            return null;
        }

        @Override
        public Void visitVariable(VariableTree tree, Void none) {
            Element element = trees.getElement(getCurrentPath());
            Set<Modifier> modifiers = element.getModifiers();
            if (modifiers.contains(Modifier.STATIC)) {
                due("Static fields are final", tree, modifiers.contains(Modifier.FINAL));
                due("constants of int, long, boolean, char or String, arrays of int, written out", tree,
                        tree.getInitializer() != null && isConstantType(element.asType()));
            }
            due("Types: int, long, char, boolean, arrays of these and of your own classes, String", tree,
                    isKnownType(element.asType()));
            return super.visitVariable(tree, none);
        }

        private static boolean isConstantType(TypeMirror type) {
            return Set.of("int", "long", "boolean", "char", "java.lang.String", "int[]").contains(type.toString());
        }

        private static boolean isKnownType(TypeMirror type) {
            if (type.getKind() == TypeKind.ARRAY) {
                TypeMirror part = ((ArrayType) type).getComponentType();
                return part.getKind() != TypeKind.ARRAY && isKnownType(part);
            }
            String name = type.toString();
            return Set.of("int", "long", "char", "boolean", "java.lang.String").contains(name)
                    || name.startsWith("CookieJar.");
        }

        @Override
        public Void visitMethodInvocation(MethodInvocationTree tree, Void none) {
            Element called = trees.getElement(getCurrentPath());
            boolean own = isOwn(called.getEnclosingElement());
            boolean ofSuper = fullName(called).equals("java.lang.Object.<init>");
            due("The library: only what stands here", tree, own || ofSuper || LIBRARY.contains(fullName(called)));
            if (own) {
                note(fullName(called));
                due("A constructor calls no method that another class could override", tree, !inConstructor);
            }
            return super.visitMethodInvocation(tree, none);
        }

        private void note(String called) {
            if (calls.containsKey(method)) {
                calls.get(method).add(called);
            }
        }

        @Override
        public Void visitNewClass(NewClassTree tree, Void none) {
            Element made = trees.getElement(getCurrentPath());
            due("no class without a name", tree, tree.getClassBody() == null);
            if (isOwn(made.getEnclosingElement())) {
                note(fullName(made));
            } else {
                Tree around = getCurrentPath().getParentPath().getLeaf();
                due("an object of the library is made to be thrown", tree, around instanceof ThrowTree);
            }
            return super.visitNewClass(tree, none);
        }

        @Override
        public Void visitNewArray(NewArrayTree tree, Void none) {
            due("arrays of one dimension", tree, tree.getDimensions().size() <= 1);
            return super.visitNewArray(tree, none);
        }

        @Override
        public Void visitThrow(ThrowTree tree, Void none) {
            due("no throw in a constructor", tree, !inConstructor);
            boolean isNew = tree.getExpression() instanceof NewClassTree;
            due("throw new E(\"a written text\")", tree, isNew && isWritten((NewClassTree) tree.getExpression()));
            return super.visitThrow(tree, none);
        }

        private static boolean isWritten(NewClassTree made) {
            List<? extends ExpressionTree> arguments = made.getArguments();
            return EXCEPTIONS.contains(made.getIdentifier().toString()) && arguments.size() == 1
                    && arguments.get(0).getKind() == Tree.Kind.STRING_LITERAL;
        }

        @Override
        public Void visitLiteral(LiteralTree tree, Void none) {
            if (tree.getValue() instanceof String) {
                String text = (String) tree.getValue();
                due("constants, whose signs are 1 to 127", tree, text.chars().allMatch(c -> c >= 1 && c <= 127));
            }
            return super.visitLiteral(tree, none);
        }

        @Override
        public Void visitBinary(BinaryTree tree, Void none) {
            boolean texts = isText(tree.getLeftOperand()) || isText(tree.getRightOperand());
            due("no + and no == on texts", tree, !texts);
            return super.visitBinary(tree, none);
        }

        private boolean isText(ExpressionTree tree) {
            return typeOf(tree).toString().equals("java.lang.String");
        }

        @Override
        public Void visitCompoundAssignment(CompoundAssignmentTree tree, Void none) {
            due("joining texts by StringBuilder (not by +)", tree, !isText(tree.getVariable()));
            return super.visitCompoundAssignment(tree, none);
        }

        @Override
        public Void visitTypeCast(TypeCastTree tree, Void none) {
            due("a cast only where it is safe", tree, typeOf(tree.getType()).getKind() == TypeKind.CHAR);
            return super.visitTypeCast(tree, none);
        }

        @Override
        public Void visitTry(TryTree tree, Void none) {
            due("no try", tree, false);
            return super.visitTry(tree, none);
        }

        @Override
        public Void visitCatch(CatchTree tree, Void none) {
            due("no catch", tree, false);
            return super.visitCatch(tree, none);
        }

        @Override
        public Void visitLambdaExpression(LambdaExpressionTree tree, Void none) {
            due("no lambda", tree, false);
            return super.visitLambdaExpression(tree, none);
        }

        @Override
        public Void visitMemberReference(MemberReferenceTree tree, Void none) {
            due("no method reference", tree, false);
            return super.visitMemberReference(tree, none);
        }

        @Override
        public Void visitAssert(AssertTree tree, Void none) {
            due("no assert", tree, false);
            return super.visitAssert(tree, none);
        }

        @Override
        public Void visitSynchronized(SynchronizedTree tree, Void none) {
            due("no synchronized", tree, false);
            return super.visitSynchronized(tree, none);
        }

        @Override
        public Void visitInstanceOf(InstanceOfTree tree, Void none) {
            due("no instanceof", tree, false);
            return super.visitInstanceOf(tree, none);
        }
    }
}
